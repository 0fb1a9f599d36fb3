import java.util.Arrays;

/** One method for each promise of the document: ordinary inputs, edges and wrong inputs. */
public final class RowGroupsPromises {
    private static final int[] NOT_SETS = {-1, 64, 65, -64, 127, Integer.MIN_VALUE, Integer.MAX_VALUE};
    private static final int[] NOT_THINGS = {-1, 6, 7, -6, 32, 63, Integer.MIN_VALUE, Integer.MAX_VALUE};

    private static int wrong = 0;
    private static String promise = "";

    private static void due(String call, long got, long want) {
        if (got != want) {
            wrong++;
            System.out.println(promise + ": " + call + " answered " + got + ", due is " + want);
        }
    }

    private static void due(String call, boolean got, boolean want) {
        due(call, got ? 1 : 0, want ? 1 : 0);
    }

    private static RowGroups with(int... sets) {
        RowGroups x = new RowGroups();
        for (int i = 0; i < sets.length; i++) {
            due("demand(" + sets[i] + ") of " + Arrays.toString(sets), x.demand(sets[i]), i + 1);
        }
        return x;
    }

    private static void dueFirst(RowGroups x, int... things) {
        for (int i = 0; i < 6; i++) {
            due("first(" + i + ")", x.first(i), things[i]);
        }
    }

    private static void dueLast(RowGroups x, int... things) {
        for (int i = 0; i < 6; i++) {
            due("last(" + i + ")", x.last(i), things[i]);
        }
    }

    /** What an object tells of its state, in so few calls that no test goes beyond the 512th. */
    private static String asked(RowGroups x) {
        StringBuilder all = new StringBuilder();
        all.append(x.demands()).append(' ').append(x.count()).append(' ').append(x.groups());
        for (int i = 0; i < 6; i++) {
            all.append(' ').append(x.first(i)).append(' ').append(x.last(i));
        }
        all.append(' ').append(x.countWith(5)).append(' ').append(x.countWith(48));
        return all.toString();
    }

    private static void dueSame(String call, String before, RowGroups x) {
        if (!asked(x).equals(before)) {
            wrong++;
            System.out.println(promise + ": " + call + " changed the object");
        }
    }

    private static void newObject() {
        promise = "promise 1";
        RowGroups x = new RowGroups();
        due("demands()", x.demands(), 0);
        due("count()", x.count(), 720);
        due("undo()", x.undo(), RowGroups.NONE);
        due("clear()", x.clear(), 0);
        RowGroups other = with(3, 12);
        due("demands() of another object", x.demands(), 0);
        due("count() of another object", x.count(), 720);
        RowGroups third = new RowGroups();
        due("demands() of a later object", third.demands(), 0);
        due("count() of a later object", third.count(), 720);
        due("demands() of the object with demands", other.demands(), 2);
    }

    private static void demand() {
        promise = "promise 2";
        RowGroups x = with(3, 6);
        String before = asked(x);
        for (int set : NOT_SETS) {
            due("demand(" + set + ")", x.demand(set), RowGroups.BAD_ARG);
            dueSame("a demand out of range", before, x);
        }
        due("demand(5) after 3, 6", x.demand(5), RowGroups.NONE);
        dueSame("a demand that leaves no order", before, x);
        due("undo() after the refused ones", x.undo(), 6);

        for (int set = 0; set < 64; set++) {
            RowGroups one = new RowGroups();
            due("demand(" + set + ") on a new object", one.demand(set), 1);
            due("demand(" + set + ") again", one.demand(set), 2);
        }

        // A chain with one order and its mirror image; then three demands that tell nothing new.
        RowGroups full = with(3, 6, 12, 24, 48, 48, 0, 63);
        before = asked(full);
        due("demand(0) as the ninth", full.demand(0), RowGroups.FULL);
        due("demand(3) as the ninth", full.demand(3), RowGroups.FULL);
        due("demand(33) as the ninth, FULL before NONE", full.demand(33), RowGroups.FULL);
        due("demand(64) as the ninth, BAD_ARG before FULL", full.demand(64), RowGroups.BAD_ARG);
        due("demand(-1) as the ninth, BAD_ARG before FULL", full.demand(-1), RowGroups.BAD_ARG);
        dueSame("a ninth demand", before, full);
        due("undo()", full.undo(), 63);
        due("demand(33) as the eighth", full.demand(33), RowGroups.NONE);
        due("demand(30) as the eighth", full.demand(30), 8);
    }

    private static void undo() {
        promise = "promise 3";
        RowGroups x = new RowGroups();
        String none = asked(x);
        due("undo() on a new object", x.undo(), RowGroups.NONE);
        dueSame("undo() on a new object", none, x);
        int[] sets = {7, 0, 12, 48, 12, 32, 63, 5};
        String[] before = new String[sets.length];
        for (int i = 0; i < sets.length; i++) {
            before[i] = asked(x);
            due("demand(" + sets[i] + ")", x.demand(sets[i]), i + 1);
        }
        for (int i = sets.length - 1; i >= 0; i--) {
            due("undo()", x.undo(), sets[i]);
            dueSame("demand and undo of " + sets[i], before[i], x);
        }
        due("undo() after the last", x.undo(), RowGroups.NONE);
        dueSame("undo() after the last", none, x);
        // A set that was demanded twice stays demanded after one undo.
        RowGroups twice = with(3, 3);
        due("undo()", twice.undo(), 3);
        due("count()", twice.count(), 240);
    }

    private static void clear() {
        promise = "promise 4";
        RowGroups x = new RowGroups();
        String none = asked(x);
        due("clear() on a new object", x.clear(), 0);
        dueSame("clear() on a new object", none, x);
        for (int demands = 1; demands <= 8; demands++) {
            for (int i = 1; i <= demands; i++) {
                due("demand(" + (3 << i % 5) + ")", x.demand(3 << i % 5), i);
            }
            due("clear() of " + demands, x.clear(), demands);
            dueSame("demands and clear()", none, x);
            due("undo() after clear()", x.undo(), RowGroups.NONE);
        }
        due("clear() twice", x.clear(), 0);
        due("demand(33) after clear()", x.demand(33), 1);
        due("undo()", x.undo(), 33);
    }

    private static void demands() {
        promise = "promise 5";
        RowGroups x = new RowGroups();
        due("demands()", x.demands(), 0);
        for (int i = 1; i <= 8; i++) {
            x.demand(0);
            due("demands()", x.demands(), i);
        }
        x.demand(0);
        due("demands() after FULL", x.demands(), 8);
        x.undo();
        due("demands() after undo()", x.demands(), 7);
        x.demand(64);
        due("demands() after BAD_ARG", x.demands(), 7);
        x.clear();
        due("demands() after clear()", x.demands(), 0);
    }

    private static void count() {
        promise = "promise 6";
        // A set of k things alone leaves k! times (7 - k)! orders.
        int[] left = {720, 720, 240, 144, 144, 240, 720};
        for (int set = 0; set < 64; set++) {
            due("count() with " + set, with(set).count(), left[Integer.bitCount(set)]);
        }
        due("count() with 3, 12", with(3, 12).count(), 96);
        due("count() with 3, 12, 48", with(3, 12, 48).count(), 48);
        due("count() with 7, 56", with(7, 56).count(), 72);
        due("count() with 3, 6", with(3, 6).count(), 48);
        due("count() with 3, 6, 12, 24, 48", with(3, 6, 12, 24, 48).count(), 2);
    }

    private static void first() {
        promise = "promise 7";
        dueFirst(new RowGroups(), 0, 1, 2, 3, 4, 5);
        dueFirst(with(33), 0, 5, 1, 2, 3, 4);
        dueFirst(with(33, 34), 0, 5, 1, 2, 3, 4);
        dueFirst(with(33, 17), 1, 2, 3, 4, 0, 5);
        dueFirst(with(9, 18, 36), 0, 3, 1, 4, 2, 5);
        RowGroups x = with(33);
        String before = asked(x);
        for (int i : NOT_THINGS) {
            due("first(" + i + ")", x.first(i), RowGroups.BAD_ARG);
        }
        dueSame("first", before, x);
    }

    private static void last() {
        promise = "promise 8";
        dueLast(new RowGroups(), 5, 4, 3, 2, 1, 0);
        dueLast(with(33), 5, 0, 4, 3, 2, 1);
        dueLast(with(33, 34), 4, 3, 2, 1, 5, 0);
        dueLast(with(9, 18, 36), 5, 2, 4, 1, 3, 0);
        RowGroups x = with(33);
        String before = asked(x);
        for (int i : NOT_THINGS) {
            due("last(" + i + ")", x.last(i), RowGroups.BAD_ARG);
        }
        dueSame("last", before, x);
    }

    private static void allowed() {
        promise = "promise 9";
        RowGroups free = new RowGroups();
        for (int set = 0; set < 64; set++) {
            due("allowed(" + set + ")", free.allowed(set), true);
        }
        due("demands() after allowed", free.demands(), 0);
        RowGroups x = with(3, 6);
        due("allowed(5) with 3, 6", x.allowed(5), false);
        due("allowed(10) with 3, 6", x.allowed(10), false);
        due("allowed(9) with 3, 6", x.allowed(9), true);
        due("allowed(7) with 3, 6", x.allowed(7), true);
        String before = asked(x);
        for (int set : NOT_SETS) {
            due("allowed(" + set + ")", x.allowed(set), false);
        }
        dueSame("allowed", before, x);
        RowGroups full = with(3, 6, 0, 0, 0, 0, 0, 0);
        due("allowed(12) with 8 demands", full.allowed(12), true);
        due("allowed(0) with 8 demands", full.allowed(0), true);
        due("allowed(5) with 8 demands", full.allowed(5), false);
        due("allowed(64) with 8 demands", full.allowed(64), false);
    }

    private static void together() {
        promise = "promise 10";
        RowGroups free = new RowGroups();
        for (int set = 0; set < 64; set++) {
            int size = Integer.bitCount(set);
            due("together(" + set + ")", free.together(set), size <= 1 || size == 6);
        }
        RowGroups x = with(7, 12);
        due("together(7)", x.together(7), true);
        due("together(12)", x.together(12), true);
        due("together(15), the union", x.together(15), true);
        due("together(3), the difference", x.together(3), true);
        due("together(5)", x.together(5), false);
        due("together(48)", x.together(48), false);
        String before = asked(x);
        for (int set : NOT_SETS) {
            due("together(" + set + ")", x.together(set), false);
        }
        dueSame("together", before, x);
    }

    private static void countWith() {
        promise = "promise 11";
        int[] left = {720, 720, 240, 144, 144, 240, 720};
        RowGroups free = new RowGroups();
        for (int set = 0; set < 64; set++) {
            due("countWith(" + set + ")", free.countWith(set), left[Integer.bitCount(set)]);
        }
        due("count() after countWith", free.count(), 720);
        RowGroups x = with(3, 6);
        due("countWith(5) with 3, 6", x.countWith(5), 0);
        due("countWith(0) with 3, 6", x.countWith(0), 48);
        due("countWith(7) with 3, 6", x.countWith(7), 48);
        due("countWith(12) with 3, 6", x.countWith(12), 12);
        String before = asked(x);
        for (int set : NOT_SETS) {
            due("countWith(" + set + ")", x.countWith(set), RowGroups.BAD_ARG);
        }
        dueSame("countWith", before, x);
        due("countWith(12) with 8 demands", with(3, 6, 0, 0, 0, 0, 0, 0).countWith(12), 12);
    }

    private static void places() {
        promise = "promise 12";
        RowGroups free = new RowGroups();
        for (int t = 0; t < 6; t++) {
            due("places(" + t + ")", free.places(t), 63);
        }
        RowGroups row = with(3, 6, 12, 24, 48);
        int[] ofRow = {33, 18, 12, 12, 18, 33};
        for (int t = 0; t < 6; t++) {
            due("places(" + t + ") of a chain", row.places(t), ofRow[t]);
        }
        RowGroups five = with(31);
        due("places(5) with 31", five.places(5), 33);
        due("places(0) with 31", five.places(0), 63);
        due("places(1) with 3, 6", with(3, 6).places(1), 30);
        String before = asked(five);
        for (int t : NOT_THINGS) {
            due("places(" + t + ")", five.places(t), RowGroups.BAD_ARG);
        }
        dueSame("places", before, five);
    }

    private static void neighbours() {
        promise = "promise 13";
        RowGroups free = new RowGroups();
        for (int t = 0; t < 6; t++) {
            due("neighbours(" + t + ")", free.neighbours(t), 63 - (1 << t));
        }
        RowGroups row = with(3, 6, 12, 24, 48);
        int[] ofRow = {2, 5, 10, 20, 40, 16};
        for (int t = 0; t < 6; t++) {
            due("neighbours(" + t + ") of a chain", row.neighbours(t), ofRow[t]);
        }
        due("neighbours(1) with 3, 6", with(3, 6).neighbours(1), 5);
        due("neighbours(0) with 3, 6", with(3, 6).neighbours(0), 58);
        String before = asked(row);
        for (int t : NOT_THINGS) {
            due("neighbours(" + t + ")", row.neighbours(t), RowGroups.BAD_ARG);
        }
        dueSame("neighbours", before, row);
    }

    private static void groups() {
        promise = "promise 14";
        due("groups() of a new object", new RowGroups().groups(), 8);
        due("groups() with 0, 1, 63", with(0, 1, 63).groups(), 8);
        due("groups() with 3", with(3).groups(), 9);
        due("groups() with 3, 3", with(3, 3).groups(), 9);
        // 3, 6 and their union; the differences are single things.
        due("groups() with 3, 6", with(3, 6).groups(), 11);
        due("groups() with 7, 12", with(7, 12).groups(), 12);
        // A chain: the empty set and the 21 unbroken runs.
        due("groups() of a chain", with(3, 6, 12, 24, 48).groups(), 22);
        RowGroups x = with(3, 12);
        String before = asked(x);
        x.groups();
        dueSame("groups", before, x);
    }

    private static void constants() {
        promise = "constants";
        due("BAD_ARG", RowGroups.BAD_ARG, -1);
        due("FULL", RowGroups.FULL, -2);
        due("NONE", RowGroups.NONE, -4);
    }

    public static void main(String[] args) {
        constants();
        newObject();
        demand();
        undo();
        clear();
        demands();
        count();
        first();
        last();
        allowed();
        together();
        countWith();
        places();
        neighbours();
        groups();
        System.out.println(wrong == 0 ? "all answers are as due" : wrong + " answers are not as due");
        if (wrong != 0) {
            System.exit(1);
        }
    }
}
