import java.util.ArrayList;
import java.util.List;
import java.util.Set;
import java.util.TreeSet;

/**
 * Each promise over runs of up to 512 calls on one object: calls that change the demands stand mixed
 * with all the calls that only ask, with arguments in and out of range. Each answer is held against
 * a second program that follows the words of the document and shares nothing with the class. The
 * calls come from a fixed sequence of numbers; what they must have reached is asked at the end.
 */
public final class RowGroupsAgainstModel {
    private static final int RUNS = 600;
    private static final int MOST_CALLS = 512;
    private static final int ASKS = 10;
    private static final int[] NOT_SETS = {
        -1, 64, -2, -63, -64, 65, 97, 127, 128, 131, 256, 289, 65539,
        Integer.MIN_VALUE, Integer.MIN_VALUE + 3, Integer.MAX_VALUE};
    private static final int[] NOT_THINGS = {
        -1, 6, 7, 8, -2, -5, -6, 16, 31, 32, 33, 37, 64, 256, 261,
        Integer.MIN_VALUE, Integer.MIN_VALUE + 5, Integer.MAX_VALUE};
    private static final List<int[]> ORDERS = new ArrayList<>();

    private static final Set<String> reached = new TreeSet<>();
    private static int wrong = 0;
    private static long seed = 20261115L;

    private static int next(int bound) {
        seed = seed * 6364136223846793005L + 1442695040888963407L;
        return (int) ((seed >>> 33) % bound);
    }

    private static void fillOrders(List<Integer> begun) {
        if (begun.size() == 6) {
            ORDERS.add(begun.stream().mapToInt(Integer::intValue).toArray());
            return;
        }
        for (int thing = 0; thing < 6; thing++) {
            if (!begun.contains(thing)) {
                List<Integer> longer = new ArrayList<>(begun);
                longer.add(thing);
                fillOrders(longer);
            }
        }
    }

    /** By the distance of the outermost places, not by runs of bits. */
    private static boolean meets(int[] order, int set) {
        int lowest = 6;
        int highest = -1;
        for (int place = 0; place < 6; place++) {
            if ((set & 1 << order[place]) != 0) {
                lowest = Math.min(lowest, place);
                highest = Math.max(highest, place);
            }
        }
        return set == 0 || highest - lowest + 1 == Integer.bitCount(set);
    }

    private static boolean isSet(int set) {
        return 0 <= set && set <= 63;
    }

    private static boolean isThing(int t) {
        return 0 <= t && t <= 5;
    }

    private static final class Model {
        private final List<Integer> sets = new ArrayList<>();
        private List<int[]> good = ORDERS;

        private void changed() {
            good = new ArrayList<>(ORDERS);
            good.removeIf(order -> sets.stream().anyMatch(set -> !meets(order, set)));
        }

        private int with(int set) {
            return (int) good.stream().filter(order -> meets(order, set)).count();
        }

        int demand(int set) {
            if (!isSet(set)) return -1;
            if (sets.size() == 8) return -2;
            if (with(set) == 0) return -4;
            sets.add(set);
            changed();
            return sets.size();
        }

        int undo() {
            if (sets.isEmpty()) return -4;
            int set = sets.remove(sets.size() - 1);
            changed();
            return set;
        }

        int clear() {
            int before = sets.size();
            sets.clear();
            changed();
            return before;
        }

        int first(int i) {
            return isThing(i) ? good.get(0)[i] : -1;
        }

        int last(int i) {
            return isThing(i) ? good.get(good.size() - 1)[i] : -1;
        }

        boolean allowed(int set) {
            return isSet(set) && with(set) > 0;
        }

        boolean together(int set) {
            return isSet(set) && with(set) == good.size();
        }

        int countWith(int set) {
            return isSet(set) ? with(set) : -1;
        }

        int places(int t) {
            if (!isThing(t)) return -1;
            int found = 0;
            for (int[] order : good) {
                for (int place = 0; place < 6; place++) {
                    if (order[place] == t) found |= 1 << place;
                }
            }
            return found;
        }

        int neighbours(int t) {
            if (!isThing(t)) return -1;
            int found = 0;
            for (int[] order : good) {
                for (int place = 0; place < 6; place++) {
                    if (order[place] != t) continue;
                    if (place > 0) found |= 1 << order[place - 1];
                    if (place < 5) found |= 1 << order[place + 1];
                }
            }
            return found;
        }

        int groups() {
            int found = 0;
            for (int set = 0; set < 64; set++) {
                if (together(set)) found++;
            }
            return found;
        }
    }

    /** How the calls of a run are chosen. */
    private enum Kind {
        /** Changes and asks in turn, as they come. */
        MIXED,
        /** Seldom undo or clear, so that there are often eight demands. */
        FULL,
        /** Pairs and triples are demanded, so that few orders are left and many demands refused. */
        TIGHT,
        /** Every ask after every change, and before the first one. */
        ASK_ALL
    }

    private static final class Run {
        private final int number;
        private final Kind kind;
        private final int length;
        private final RowGroups x = new RowGroups();
        private final Model m = new Model();
        private int calls = 0;

        Run(int number, Kind kind, int length) {
            this.number = number;
            this.kind = kind;
            this.length = length;
        }

        void go() {
            while (calls < length) {
                if (kind == Kind.ASK_ALL) {
                    askAll();
                } else if (next(2) == 0) {
                    ask(next(ASKS));
                }
                if (calls < length) {
                    change();
                }
            }
        }

        /** Begins with another ask each time, so that each one comes right after a change. */
        private void askAll() {
            int begin = next(ASKS);
            for (int i = 0; i < ASKS && calls < length; i++) {
                ask((begin + i) % ASKS);
            }
        }

        private void change() {
            int choice = next(kind == Kind.FULL ? 40 : 20);
            if (choice == 0) {
                int before = m.sets.size();
                due(4, "clear()", "", before, x.clear(), m.clear());
            } else if (choice <= 5) {
                int before = m.sets.size();
                due(3, "undo()", "", before, x.undo(), m.undo());
            } else {
                demand(someSet());
            }
        }

        private void demand(int set) {
            int before = m.sets.size();
            int want = m.demand(set);
            String outcome = want < 0 ? String.valueOf(want) : "added";
            due(2, "demand(" + set + ")", outcome, before, x.demand(set), want);
        }

        private void ask(int which) {
            switch (which) {
                case 0: due(5, "demands()", "", x.demands(), m.sets.size()); break;
                case 1: due(6, "count()", "", x.count(), m.good.size()); break;
                case 2: due(14, "groups()", "", x.groups(), m.groups()); break;
                case 3: case 4: case 5: askOfSet(which, someSet()); break;
                default: askOfThing(which, someThing());
            }
        }

        private void askOfSet(int which, int set) {
            String of = "(" + set + ")";
            String range = isSet(set) ? "in" : "out";
            switch (which) {
                case 3:
                    due(9, "allowed" + of, range + m.allowed(set), bit(x.allowed(set)), bit(m.allowed(set)));
                    break;
                case 4:
                    due(10, "together" + of, range + m.together(set), bit(x.together(set)), bit(m.together(set)));
                    break;
                default:
                    due(11, "countWith" + of, range, x.countWith(set), m.countWith(set));
            }
        }

        private void askOfThing(int which, int t) {
            String of = "(" + t + ")";
            String range = isThing(t) ? "in" : "out";
            switch (which) {
                case 6: due(7, "first" + of, range, x.first(t), m.first(t)); break;
                case 7: due(8, "last" + of, range, x.last(t), m.last(t)); break;
                case 8: due(12, "places" + of, range, x.places(t), m.places(t)); break;
                default: due(13, "neighbours" + of, range, x.neighbours(t), m.neighbours(t));
            }
        }

        private int someSet() {
            if (next(8) == 0) {
                return NOT_SETS[next(NOT_SETS.length)];
            }
            if (kind == Kind.TIGHT && next(4) != 0) {
                return 1 << next(6) | 1 << next(6) | 1 << next(6);
            }
            switch (next(8)) {
                case 0: return 3 << next(5);
                case 1: return 1 << next(6) | 1 << next(6);
                case 2: return (1 << next(7)) - 1;
                case 3: return m.sets.isEmpty() ? 0 : m.sets.get(next(m.sets.size()));
                default: return next(64);
            }
        }

        private int someThing() {
            return next(5) == 0 ? NOT_THINGS[next(NOT_THINGS.length)] : next(6);
        }

        private void due(int promise, String call, String outcome, long got, long want) {
            due(promise, call, outcome, m.sets.size(), got, want);
        }

        private void due(int promise, String call, String outcome, int demands, long got, long want) {
            calls++;
            reached.add(point(call.substring(0, call.indexOf('(')), outcome, demands));
            if (got != want) {
                wrong++;
                System.out.println("promise " + promise + ", run " + number + " (" + kind + "), call " + calls
                    + ": " + call + " answered " + got + ", due is " + want);
            }
        }
    }

    private static int bit(boolean answer) {
        return answer ? 1 : 0;
    }

    private static String point(String name, String outcome, int demands) {
        return name + " " + outcome + " with " + demands;
    }

    /** Runs that miss a kind of call in a state would pass without having looked. */
    private static void dueReached() {
        for (int demands = 0; demands <= 8; demands++) {
            for (String name : List.of("undo", "clear", "demands", "count", "groups")) {
                dueReached(name, demands, "");
            }
            for (String name : List.of("first", "last", "places", "neighbours", "countWith")) {
                dueReached(name, demands, "in", "out");
            }
            dueReached("together", demands, "intrue", "infalse", "outfalse");
            dueReached("allowed", demands, "intrue", "outfalse");
            dueReached("demand", demands, "-1", demands == 8 ? "-2" : "added");
            // Any two sets can both stand together, so it takes two demands to leave no order.
            if (demands >= 2) {
                dueReached("allowed", demands, "infalse");
            }
            if (demands >= 2 && demands < 8) {
                dueReached("demand", demands, "-4");
            }
        }
    }

    private static void dueReached(String name, int demands, String... outcomes) {
        for (String outcome : outcomes) {
            if (!reached.contains(point(name, outcome, demands))) {
                wrong++;
                System.out.println("no run reached: " + point(name, outcome, demands) + " demands");
            }
        }
    }

    public static void main(String[] args) {
        fillOrders(new ArrayList<>());
        Kind[] kinds = Kind.values();
        for (int number = 1; number <= RUNS && wrong < 50; number++) {
            int length = number % 3 == 0 ? 1 + next(MOST_CALLS) : MOST_CALLS;
            new Run(number, kinds[number % kinds.length], length).go();
        }
        // Runs that were broken off have not reached all, and that would tell nothing.
        if (wrong == 0) {
            dueReached();
        }
        System.out.println(wrong == 0 ? "all answers are as due" : wrong + " answers are not as due");
        if (wrong != 0) {
            System.exit(1);
        }
    }
}
