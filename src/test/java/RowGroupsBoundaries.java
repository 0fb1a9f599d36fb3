import java.util.ArrayList;
import java.util.Arrays;
import java.util.List;

/**
 * One method for each sentence of the document that names a boundary case. The arguments are the
 * last that is taken and the first that isn't, at both ends, the least and the greatest int, and
 * numbers that would be taken if only some of their bits were looked at.
 */
public final class RowGroupsBoundaries {
    private static final int LEAST = Integer.MIN_VALUE;
    private static final int GREATEST = Integer.MAX_VALUE;
    private static final int BAD_ARG = -1;
    private static final int FULL = -2;
    private static final int NONE = -4;

    private static final int[] NOT_SETS = {
        -1, 64, LEAST, GREATEST, -2, -63, -64, 65, 64 + 33, 127, 128 + 3, 256, 256 + 33, 65536 + 3,
        LEAST + 1, LEAST + 33, LEAST + 63, GREATEST - 1};
    private static final int[] NOT_THINGS = {
        -1, 6, LEAST, GREATEST, -2, -5, -6, 7, 8, 16, 31, 32, 33, 64, 256, 256 + 5, 65536 + 1,
        LEAST + 1, LEAST + 5, GREATEST - 1};

    /** Sets that demand nothing: the empty one and those with one thing. */
    private static final int[] IDLE = {0, 1, 2, 4, 8, 16, 32};

    private static final int[] NO_DEMAND = {};
    private static final int[] TWO = {3, 6};
    private static final int[] CHAIN = {3, 6, 12, 24, 48};
    private static final int[] EIGHT_LOOSE = {0, 1, 2, 4, 8, 16, 32, 63};
    private static final int[] EIGHT_TIGHT = {3, 6, 12, 24, 48, 30, 15, 60};
    private static final int[] EIGHT_MIXED = {7, 12, 0, 63, 7, 32, 3, 48};
    private static final int[][] STATES = {
        NO_DEMAND, {0}, {33}, TWO, CHAIN, {7, 12, 48, 5, 24, 3, 1}, EIGHT_LOOSE, EIGHT_TIGHT, EIGHT_MIXED};
    private static final int[][] EIGHTS = {EIGHT_LOOSE, EIGHT_TIGHT, EIGHT_MIXED};

    private static int wrong = 0;
    private static String sentence = "";

    private interface Call {
        long on(RowGroups x);
    }

    private static void due(String call, long got, long want) {
        if (got != want) {
            wrong++;
            System.out.println(sentence + " | " + call + " answered " + got + ", due is " + want);
        }
    }

    private static void due(String call, boolean got, boolean want) {
        due(call, got ? 1 : 0, want ? 1 : 0);
    }

    private static RowGroups with(int... sets) {
        RowGroups x = new RowGroups();
        for (int i = 0; i < sets.length; i++) {
            due("demand(" + sets[i] + ") of " + Arrays.toString(sets), x.demand(sets[i]), i + 1);
        }
        return x;
    }

    private static int[] and(int[] sets, int set) {
        int[] longer = Arrays.copyOf(sets, sets.length + 1);
        longer[sets.length] = set;
        return longer;
    }

    /** All that can be asked without a change, but for the number of demands: 218 calls. */
    private static List<Long> answers(RowGroups x) {
        List<Long> all = new ArrayList<>();
        all.add((long) x.count());
        all.add((long) x.groups());
        for (int i = 0; i < 6; i++) {
            all.add((long) x.first(i));
            all.add((long) x.last(i));
            all.add((long) x.places(i));
            all.add((long) x.neighbours(i));
        }
        for (int set = 0; set < 64; set++) {
            all.add(x.allowed(set) ? 1L : 0L);
            all.add(x.together(set) ? 1L : 0L);
            all.add((long) x.countWith(set));
        }
        return all;
    }

    /** The whole state: every answer, and every demand with what is left without it. Uses x up. */
    private static List<Long> wholeState(RowGroups x) {
        List<Long> all = answers(x);
        all.add((long) x.demands());
        for (int i = 0; i < 9; i++) {
            all.add((long) x.undo());
            all.add((long) x.demands());
            all.add((long) x.count());
        }
        return all;
    }

    private static void dueState(String call, RowGroups x, int... sets) {
        if (!wholeState(x).equals(wholeState(with(sets)))) {
            wrong++;
            System.out.println(sentence + " | after " + call + " the object isn't as with "
                + Arrays.toString(sets));
        }
    }

    /** Makes the call on an object with these demands: the answer is due, and nothing changes. */
    private static void dueUnchanged(String call, Call made, long want, int... sets) {
        RowGroups x = with(sets);
        due(call + " with " + Arrays.toString(sets), made.on(x), want);
        dueState(call, x, sets);
    }

    // Terms

    private static void atMostEight() {
        sentence = "Terms: at most 8";
        for (int set = 0; set < 64; set++) {
            RowGroups x = new RowGroups();
            for (int i = 1; i <= 8; i++) {
                due("demand(" + set + "), time " + i, x.demand(set), i);
            }
            due("demand(" + set + "), time 9", x.demand(set), FULL);
            due("demand(" + set + "), time 10", x.demand(set), FULL);
            due("demands()", x.demands(), 8);
            due("undo()", x.undo(), set);
            due("demand(" + set + ") after undo()", x.demand(set), 8);
            due("demand(" + set + ") after that", x.demand(set), FULL);
            due("clear()", x.clear(), 8);
            for (int i = 1; i <= 8; i++) {
                due("demand(" + set + ") after clear(), time " + i, x.demand(set), i);
            }
            due("demand(" + set + ") after clear(), time 9", x.demand(set), FULL);
            dueState("all this", x, set, set, set, set, set, set, set, set);
        }
    }

    private static void setsAreSumsOfPowers() {
        sentence = "Terms: a set has 2 to the power t added up for its things t (0 to 63)";
        for (int a = 0; a < 6; a++) {
            for (int b = a + 1; b < 6; b++) {
                pairIsOfItsThings(a, b);
            }
        }
        // The five other things stand together, so that this one is at an end.
        for (int t = 0; t < 6; t++) {
            RowGroups x = with(63 - (1 << t));
            for (int other = 0; other < 6; other++) {
                due("places(" + other + ") without " + t, x.places(other), other == t ? 33 : 63);
            }
        }
        RowGroups ends = new RowGroups();
        due("demand(0)", ends.demand(0), 1);
        due("demand(63)", ends.demand(63), 2);
        due("demand(-1)", ends.demand(-1), BAD_ARG);
        due("demand(64)", ends.demand(64), BAD_ARG);
    }

    private static void pairIsOfItsThings(int a, int b) {
        int pair = (1 << a) + (1 << b);
        RowGroups x = with(pair);
        for (int c = 0; c < 6; c++) {
            for (int d = c + 1; d < 6; d++) {
                int other = (1 << c) + (1 << d);
                due("together(" + other + ") with " + pair, x.together(other), other == pair);
            }
        }
        // With a second neighbour for a there is room for no third.
        int c = a == 0 ? (b == 1 ? 2 : 1) : 0;
        x.demand((1 << a) + (1 << c));
        due("neighbours(" + a + ") with " + b + " and " + c, x.neighbours(a), (1 << b) + (1 << c));
    }

    private static void emptyAndSingleDemandNothing() {
        sentence = "Terms: an empty set, or one with one thing, demands nothing";
        for (int[] sets : new int[][] {NO_DEMAND, {33}, TWO, CHAIN}) {
            List<Long> before = answers(with(sets));
            for (int set : IDLE) {
                RowGroups x = with(and(sets, set));
                due("demands() after " + set, x.demands(), sets.length + 1);
                due("same answers after " + set, answers(x).equals(before), true);
                due("undo() after " + set, x.undo(), set);
                due("same answers after undo()", answers(x).equals(before), true);
            }
        }
        for (int set : IDLE) {
            due("count() with 8 times " + set, with(set, set, set, set, set, set, set, set).count(), 720);
        }
        // All six stand together in every order, but two do not.
        due("count() with 63", with(63).count(), 720);
        due("count() with 3", with(3).count(), 240);
    }

    private static void alwaysAGoodOrder() {
        sentence = "Terms: there is always at least one good order";
        for (int set = 0; set < 64; set++) {
            for (int second = 0; second < 64; second++) {
                RowGroups x = with(set, second);
                // What comes third tries every set, each time on what the one before has left.
                for (int third = 0; third < 64; third++) {
                    int before = x.count();
                    int left = x.countWith(third);
                    int answer = x.demand(third);
                    due("demand(" + third + ") with " + set + ", " + second, answer, left > 0 ? 3 : NONE);
                    due("count() then", x.count(), left > 0 ? left : before);
                    if (answer == 3) {
                        due("undo()", x.undo(), third);
                    }
                }
                due("count() at least 1", x.count() >= 1, true);
            }
        }
        for (int[] sets : EIGHTS) {
            due("count() with " + Arrays.toString(sets), with(sets).count() >= 1, true);
        }
        // The fewest: one order and its mirror image.
        RowGroups fewest = with(CHAIN);
        due("count()", fewest.count(), 2);
        due("demand(33)", fewest.demand(33), NONE);
        due("demand(5)", fewest.demand(5), NONE);
        due("count() after the refused ones", fewest.count(), 2);
        for (int i = 0; i < 6; i++) {
            due("first(" + i + ")", fewest.first(i), i);
            due("last(" + i + ")", fewest.last(i), 5 - i);
        }
    }

    private static void noCallThrows() {
        sentence = "Terms: no call ever throws";
        int[] numbers = new int[200];
        for (int i = 0; i < 192; i++) {
            numbers[i] = i - 64;
        }
        int[] far = {LEAST, LEAST + 1, LEAST + 63, -65536, 65536, 1 << 30, GREATEST - 1, GREATEST};
        System.arraycopy(far, 0, numbers, 192, far.length);
        for (int[] sets : STATES) {
            for (int number : numbers) {
                callEverything(number, sets);
            }
        }
    }

    private static void callEverything(int number, int... sets) {
        try {
            RowGroups x = with(sets);
            x.first(number);
            x.last(number);
            x.allowed(number);
            x.together(number);
            x.countWith(number);
            x.places(number);
            x.neighbours(number);
            x.demand(number);
            x.demands();
            x.count();
            x.groups();
            for (int i = 0; i < 10; i++) {
                x.undo();
            }
            x.demand(number);
            x.clear();
            x.clear();
            x.undo();
        } catch (Throwable thrown) {
            wrong++;
            System.out.println(sentence + " | a call with " + number + " and the demands "
                + Arrays.toString(sets) + " threw " + thrown);
        }
    }

    private static void refusedChangesNothing() {
        sentence = "Terms: a refused call answers the code named and changes nothing";
        due("BAD_ARG", RowGroups.BAD_ARG, BAD_ARG);
        due("FULL", RowGroups.FULL, FULL);
        due("NONE", RowGroups.NONE, NONE);
        for (int[] sets : STATES) {
            RowGroups x = with(sets);
            // All refusals that take an argument, one after another on the same object.
            for (int set : new int[] {-1, 64, LEAST, GREATEST}) {
                due("demand(" + set + ")", x.demand(set), BAD_ARG);
                due("allowed(" + set + ")", x.allowed(set), false);
                due("together(" + set + ")", x.together(set), false);
                due("countWith(" + set + ")", x.countWith(set), BAD_ARG);
            }
            for (int i : new int[] {-1, 6, LEAST, GREATEST}) {
                due("first(" + i + ")", x.first(i), BAD_ARG);
                due("last(" + i + ")", x.last(i), BAD_ARG);
                due("places(" + i + ")", x.places(i), BAD_ARG);
                due("neighbours(" + i + ")", x.neighbours(i), BAD_ARG);
            }
            dueState("32 refused calls", x, sets);
        }
    }

    // What it is

    /** Each call as the last one that is promised, after 511 others that leave 7 and 12 demanded. */
    private static void lastCallOf512() {
        sentence = "What it is: an object is used for at most 512 calls";
        String[] names = {"demand(48)", "demand(64)", "undo()", "clear()", "demands()", "count()",
            "first(1)", "last(3)", "allowed(5)", "together(3)", "countWith(24)", "places(2)",
            "neighbours(2)", "groups()"};
        Call[] calls = {x -> x.demand(48), x -> x.demand(64), x -> x.undo(), x -> x.clear(),
            x -> x.demands(), x -> x.count(), x -> x.first(1), x -> x.last(3),
            x -> x.allowed(5) ? 1 : 0, x -> x.together(3) ? 1 : 0, x -> x.countWith(24),
            x -> x.places(2), x -> x.neighbours(2), x -> x.groups()};
        long[] wants = {3, BAD_ARG, 12, 2, 2, 24, 1, 2, 1, 1, 8, 30, 11, 12};
        Call[] fillers = {x -> x.undo() * 0L + x.demand(12), x -> x.demand(63) * 0L + x.undo(),
            x -> x.demand(64) * 0L + x.demand(-1), x -> x.groups() * 0L + x.count(),
            x -> x.first(6) * 0L + x.places(-1)};
        for (int i = 0; i < calls.length; i++) {
            for (Call filler : fillers) {
                RowGroups x = with(7, 12);
                due("demands()", x.demands(), 2);
                for (int pair = 0; pair < 254; pair++) {
                    filler.on(x);
                }
                due(names[i] + " as the 512th call", calls[i].on(x), wants[i]);
            }
        }
        // Nothing but demands: eight are taken, 504 are refused.
        RowGroups demanded = new RowGroups();
        for (int call = 1; call <= 512; call++) {
            due("demand(3), call " + call, demanded.demand(3), call <= 8 ? call : FULL);
        }
        RowGroups undone = new RowGroups();
        RowGroups cleared = new RowGroups();
        for (int call = 1; call <= 512; call++) {
            due("undo(), call " + call, undone.undo(), NONE);
            due("clear(), call " + call, cleared.clear(), 0);
        }
    }

    // Promise 1

    private static void newHasNoDemand() {
        sentence = "Promise 1: no demand";
        RowGroups x = new RowGroups();
        due("demands()", x.demands(), 0);
        due("undo()", x.undo(), NONE);
        due("clear()", x.clear(), 0);
        due("count()", x.count(), 720);
        due("groups()", x.groups(), 8);
        for (int t = 0; t < 6; t++) {
            due("first(" + t + ")", x.first(t), t);
            due("last(" + t + ")", x.last(t), 5 - t);
            due("places(" + t + ")", x.places(t), 63);
            due("neighbours(" + t + ")", x.neighbours(t), 63 - (1 << t));
        }
        for (int set = 0; set < 64; set++) {
            due("allowed(" + set + ")", x.allowed(set), true);
        }
        due("demand(33)", x.demand(33), 1);
        RowGroups full = with(EIGHT_TIGHT);
        RowGroups later = new RowGroups();
        due("demands() beside a full object", later.demands(), 0);
        due("count() beside a full object", later.count(), 720);
        due("demand(33) beside a full object", later.demand(33), 1);
        dueState("another object's demand", full, EIGHT_TIGHT);
        dueState("another object's demands", later, 33);
    }

    // Promise 2

    private static void demandOutOfRange() {
        sentence = "Promise 2: set not 0 to 63 answers BAD_ARG";
        for (int[] sets : STATES) {
            for (int set : NOT_SETS) {
                dueUnchanged("demand(" + set + ")", x -> x.demand(set), BAD_ARG, sets);
            }
        }
        for (int set = 0; set < 64; set++) {
            due("demand(" + set + ")", new RowGroups().demand(set), 1);
        }
    }

    private static void demandWhenFull() {
        sentence = "Promise 2: FULL";
        for (int[] sets : EIGHTS) {
            for (int set = 0; set < 64; set++) {
                int ninth = set;
                dueUnchanged("demand(" + set + ")", x -> x.demand(ninth), FULL, sets);
            }
        }
        // Seven are not full, whatever they are.
        due("the eighth", with(0, 0, 0, 0, 0, 0, 0).demand(0), 8);
        due("the eighth", with(3, 6, 12, 24, 48, 30, 15).demand(60), 8);
    }

    private static void demandLeavesNoOrder() {
        sentence = "Promise 2: no good order would be left answers NONE";
        dueUnchanged("demand(5)", x -> x.demand(5), NONE, TWO);
        dueUnchanged("demand(10)", x -> x.demand(10), NONE, TWO);
        dueUnchanged("demand(33)", x -> x.demand(33), NONE, CHAIN);
        // Three things would have to stand next to thing 0, which has two sides.
        dueUnchanged("demand(9)", x -> x.demand(9), NONE, 3, 5);
        // A sixth pair would close the row 1, 3, 5, 4, 2, 0 to a ring.
        dueUnchanged("demand(3)", x -> x.demand(3), NONE, 10, 40, 48, 20, 5);
        // As the eighth demand, when there is room but no order.
        dueUnchanged("demand(33)", x -> x.demand(33), NONE, 3, 6, 12, 24, 48, 0, 63);
        dueUnchanged("demand(47)", x -> x.demand(47), NONE, CHAIN);
        // Each of them alone is fine; only what stands already rules it out.
        for (int set : new int[] {3, 5, 9, 10, 33, 47}) {
            due("demand(" + set + ")", new RowGroups().demand(set), 1);
        }
        // With the chain, the unbroken runs are taken and no others.
        for (int set = 0; set < 64; set++) {
            due("demand(" + set + ") with the chain", with(CHAIN).demand(set), isRun(set) ? 6 : NONE);
        }
        RowGroups freed = with(TWO);
        due("demand(5)", freed.demand(5), NONE);
        due("undo()", freed.undo(), 6);
        due("demand(5) after undo()", freed.demand(5), 2);
        due("demand(6) after that", freed.demand(6), NONE);
        due("clear()", freed.clear(), 2);
        due("demand(6) after clear()", freed.demand(6), 1);
    }

    private static boolean isRun(int set) {
        String bits = Integer.toBinaryString(set);
        return bits.matches("0|1+0*");
    }

    private static void demandTestsInOrder() {
        sentence = "Promise 2: tested in this order: BAD_ARG; FULL; NONE";
        for (int[] sets : EIGHTS) {
            for (int set : new int[] {-1, 64, LEAST, GREATEST, 64 + 33, LEAST + 33}) {
                dueUnchanged("demand(" + set + ")", x -> x.demand(set), BAD_ARG, sets);
            }
        }
        // 33 has no order left with the chain: out of range by its high bits, full, or neither.
        dueUnchanged("demand(97)", x -> x.demand(64 + 33), BAD_ARG, CHAIN);
        dueUnchanged("demand(97)", x -> x.demand(64 + 33), BAD_ARG, EIGHT_TIGHT);
        dueUnchanged("demand(33)", x -> x.demand(33), FULL, EIGHT_TIGHT);
        dueUnchanged("demand(33)", x -> x.demand(33), NONE, 3, 6, 12, 24, 48, 30, 15);
        dueUnchanged("demand(5)", x -> x.demand(5), FULL, 3, 6, 0, 0, 0, 0, 0, 0);
        dueUnchanged("demand(5)", x -> x.demand(5), NONE, 3, 6, 0, 0, 0, 0, 0);
    }

    private static void demandAnswersTheNumber() {
        sentence = "Promise 2: otherwise the number of demands";
        for (int[] sets : EIGHTS) {
            RowGroups x = new RowGroups();
            for (int i = 0; i < 8; i++) {
                due("demand(64) before number " + (i + 1), x.demand(64), BAD_ARG);
                due("demand(" + sets[i] + ")", x.demand(sets[i]), i + 1);
            }
            dueState("eight demands", x, sets);
        }
        RowGroups x = with(3, 6);
        due("demand(5), refused", x.demand(5), NONE);
        due("demand(12)", x.demand(12), 3);
        due("undo()", x.undo(), 12);
        due("demand(0)", x.demand(0), 3);
        due("clear()", x.clear(), 3);
        due("demand(63)", x.demand(63), 1);
    }

    // Promise 3

    private static void undoOfNone() {
        sentence = "Promise 3: NONE if there is none";
        dueUnchanged("undo()", x -> x.undo(), NONE, NO_DEMAND);
        dueUnchanged("undo() twice", x -> x.undo() + x.undo(), 2 * NONE, NO_DEMAND);
        for (int[] sets : STATES) {
            RowGroups emptied = with(sets);
            for (int i = 0; i < sets.length; i++) {
                emptied.undo();
            }
            due("undo() after the last", emptied.undo(), NONE);
            due("undo() once more", emptied.undo(), NONE);
            due("demand(33) then", emptied.demand(33), 1);
            dueState("undo() of all and demand(33)", emptied, 33);
            RowGroups cleared = with(sets);
            cleared.clear();
            due("undo() after clear()", cleared.undo(), NONE);
            dueState("clear() and undo()", cleared);
        }
        RowGroups refused = new RowGroups();
        refused.demand(64);
        refused.demand(-1);
        due("undo() after refused demands", refused.undo(), NONE);
    }

    private static void undoAnswersTheSet() {
        sentence = "Promise 3: otherwise its set";
        for (int set = 0; set < 64; set++) {
            RowGroups x = with(set);
            due("undo() of " + set, x.undo(), set);
            dueState("undo() of " + set, x);
        }
        for (int[] sets : STATES) {
            RowGroups x = with(sets);
            for (int i = sets.length - 1; i >= 0; i--) {
                due("undo()", x.undo(), sets[i]);
                due("demands() after it", x.demands(), i);
                due("same answers as without it", answersAfter(sets, i), true);
            }
        }
        // The last that was added, not the last that was tried.
        RowGroups x = with(3, 6);
        x.demand(5);
        x.demand(64);
        due("undo() after refused demands", x.undo(), 6);
        RowGroups full = with(EIGHT_MIXED);
        full.demand(1);
        due("undo() after FULL", full.undo(), 48);
        dueState("FULL and undo()", full, Arrays.copyOf(EIGHT_MIXED, 7));
    }

    private static boolean answersAfter(int[] sets, int kept) {
        RowGroups x = with(sets);
        for (int i = sets.length; i > kept; i--) {
            x.undo();
        }
        return answers(x).equals(answers(with(Arrays.copyOf(sets, kept))));
    }

    // Promise 4

    private static void clearAnswersHowMany() {
        sentence = "Promise 4: answers how many there were";
        for (int[] sets : STATES) {
            for (int kept = 0; kept <= sets.length; kept++) {
                RowGroups x = with(Arrays.copyOf(sets, kept));
                due("clear() of " + kept, x.clear(), kept);
                due("clear() again", x.clear(), 0);
                dueState("clear() of " + kept, x);
            }
        }
        dueUnchanged("clear()", x -> x.clear(), 0, NO_DEMAND);
        RowGroups full = with(EIGHT_TIGHT);
        due("demand(0)", full.demand(0), FULL);
        due("clear() after FULL", full.clear(), 8);
        due("demand(33) after clear()", full.demand(33), 1);
        dueState("clear() and demand(33)", full, 33);
        RowGroups refused = with(TWO);
        due("demand(5)", refused.demand(5), NONE);
        due("demand(64)", refused.demand(64), BAD_ARG);
        due("clear() after NONE and BAD_ARG", refused.clear(), 2);
    }

    // Promises 5 and 6

    private static void numberOfDemands() {
        sentence = "Promise 5: the number of demands";
        RowGroups x = new RowGroups();
        due("demands() with none", x.demands(), 0);
        x.undo();
        due("demands() after undo() of none", x.demands(), 0);
        x.clear();
        due("demands() after clear() of none", x.demands(), 0);
        x.demand(-1);
        due("demands() after BAD_ARG", x.demands(), 0);
        for (int i = 0; i < 8; i++) {
            x.demand(EIGHT_TIGHT[i]);
            due("demands()", x.demands(), i + 1);
            if (i == 6) {
                x.demand(33);
                due("demands() after NONE", x.demands(), 7);
            }
        }
        x.demand(3);
        due("demands() after FULL", x.demands(), 8);
        x.demand(64);
        due("demands() after BAD_ARG", x.demands(), 8);
        x.allowed(0);
        due("demands() after allowed", x.demands(), 8);
        x.undo();
        due("demands() after undo()", x.demands(), 7);
        x.clear();
        due("demands() after clear()", x.demands(), 0);
        // The same set again, and one that demands nothing, are demands too.
        due("demands() with 3, 3, 0", with(3, 3, 0).demands(), 3);
    }

    private static void numberOfGoodOrders() {
        sentence = "Promise 6: the number of good orders";
        RowGroups x = new RowGroups();
        due("count() with no demand", x.count(), 720);
        x.undo();
        due("count() after undo() of none", x.count(), 720);
        x.clear();
        due("count() after clear() of none", x.count(), 720);
        int[] left = {240, 48, 12, 4, 2, 2, 2, 2};
        for (int i = 0; i < 8; i++) {
            x.demand(EIGHT_TIGHT[i]);
            due("count() with " + (i + 1), x.count(), left[i]);
            x.demand(64);
            due("count() after BAD_ARG", x.count(), left[i]);
            if (i >= 1) {
                due("demand(5)", x.demand(5), i == 7 ? FULL : NONE);
                due("count() after " + (i == 7 ? "FULL" : "NONE"), x.count(), left[i]);
            }
        }
        for (int i = 6; i >= 0; i--) {
            x.undo();
            due("count() after undo(), with " + (i + 1), x.count(), left[i]);
        }
        x.clear();
        due("count() after clear()", x.count(), 720);
        due("count() with eight that demand nothing", with(EIGHT_LOOSE).count(), 720);
        RowGroups mixed = with(EIGHT_MIXED);
        due("count() with eight", mixed.count(), 16);
        mixed.demand(5);
        due("count() after a ninth", mixed.count(), 16);
        mixed.allowed(5);
        mixed.countWith(5);
        due("count() after allowed and countWith", mixed.count(), 16);
    }

    // Promises 7 and 8

    private static void firstOutOfRange() {
        sentence = "Promise 7: BAD_ARG if i is not 0 to 5";
        for (int[] sets : STATES) {
            for (int i : NOT_THINGS) {
                dueUnchanged("first(" + i + ")", x -> x.first(i), BAD_ARG, sets);
            }
        }
        dueUnchanged("first(0)", x -> x.first(0), 0, NO_DEMAND);
        dueUnchanged("first(5)", x -> x.first(5), 5, NO_DEMAND);
        dueUnchanged("first(0)", x -> x.first(0), 1, 33, 17);
        dueUnchanged("first(4)", x -> x.first(4), 0, 33, 17);
        dueUnchanged("first(5)", x -> x.first(5), 5, 33, 17);
        dueUnchanged("first(0)", x -> x.first(0), 0, EIGHT_TIGHT);
        dueUnchanged("first(5)", x -> x.first(5), 5, EIGHT_TIGHT);
    }

    private static void lastOutOfRange() {
        sentence = "Promise 8: BAD_ARG if i is not 0 to 5";
        for (int[] sets : STATES) {
            for (int i : NOT_THINGS) {
                dueUnchanged("last(" + i + ")", x -> x.last(i), BAD_ARG, sets);
            }
        }
        dueUnchanged("last(0)", x -> x.last(0), 5, NO_DEMAND);
        dueUnchanged("last(5)", x -> x.last(5), 0, NO_DEMAND);
        dueUnchanged("last(0)", x -> x.last(0), 4, 33, 34);
        dueUnchanged("last(4)", x -> x.last(4), 5, 33, 34);
        dueUnchanged("last(5)", x -> x.last(5), 0, 33, 34);
        dueUnchanged("last(0)", x -> x.last(0), 5, EIGHT_TIGHT);
        dueUnchanged("last(5)", x -> x.last(5), 0, EIGHT_TIGHT);
    }

    // Promise 9

    private static void allowedWithEight() {
        sentence = "Promise 9: also if there are 8";
        for (int set = 0; set < 64; set++) {
            int ninth = set;
            dueUnchanged("allowed(" + set + ")", x -> x.allowed(ninth) ? 1 : 0, 1, EIGHT_LOOSE);
            dueUnchanged("allowed(" + set + ")", x -> x.allowed(ninth) ? 1 : 0, isRun(set) ? 1 : 0,
                EIGHT_TIGHT);
            // Seven and eight demands with the same orders left give the same answers.
            due("allowed(" + set + ") with 8 as with 7", with(EIGHT_MIXED).allowed(set),
                with(7, 12, 0, 63, 32, 3, 48).allowed(set));
        }
        RowGroups x = with(EIGHT_TIGHT);
        due("demand(30)", x.demand(30), FULL);
        due("allowed(30)", x.allowed(30), true);
        due("allowed(33)", x.allowed(33), false);
    }

    private static void allowedOutOfRange() {
        sentence = "Promise 9: false if set is not 0 to 63";
        for (int[] sets : STATES) {
            for (int set : NOT_SETS) {
                dueUnchanged("allowed(" + set + ")", x -> x.allowed(set) ? 1 : 0, 0, sets);
            }
            dueUnchanged("allowed(0)", x -> x.allowed(0) ? 1 : 0, 1, sets);
            dueUnchanged("allowed(63)", x -> x.allowed(63) ? 1 : 0, 1, sets);
        }
        dueUnchanged("allowed(5)", x -> x.allowed(5) ? 1 : 0, 0, TWO);
    }

    // Promise 10

    private static void togetherOutOfRange() {
        sentence = "Promise 10: false if set is not 0 to 63";
        for (int[] sets : STATES) {
            for (int set : NOT_SETS) {
                dueUnchanged("together(" + set + ")", x -> x.together(set) ? 1 : 0, 0, sets);
            }
            dueUnchanged("together(0)", x -> x.together(0) ? 1 : 0, 1, sets);
            dueUnchanged("together(32)", x -> x.together(32) ? 1 : 0, 1, sets);
            dueUnchanged("together(63)", x -> x.together(63) ? 1 : 0, 1, sets);
            for (int set : sets) {
                dueUnchanged("together(" + set + ")", x -> x.together(set) ? 1 : 0, 1, sets);
            }
        }
        dueUnchanged("together(62)", x -> x.together(62) ? 1 : 0, 0, NO_DEMAND);
        dueUnchanged("together(3)", x -> x.together(3) ? 1 : 0, 0, NO_DEMAND);
    }

    // Promise 11

    private static void countWithOutOfRange() {
        sentence = "Promise 11: BAD_ARG if set is not 0 to 63";
        int[] counts = {720, 720, 240, 48, 2, 2, 720, 2, 16};
        for (int i = 0; i < STATES.length; i++) {
            int[] sets = STATES[i];
            for (int set : NOT_SETS) {
                dueUnchanged("countWith(" + set + ")", x -> x.countWith(set), BAD_ARG, sets);
            }
            dueUnchanged("countWith(0)", x -> x.countWith(0), counts[i], sets);
            dueUnchanged("countWith(63)", x -> x.countWith(63), counts[i], sets);
        }
        // No order is a number of orders, not a refusal.
        dueUnchanged("countWith(5)", x -> x.countWith(5), 0, TWO);
        dueUnchanged("countWith(33)", x -> x.countWith(33), 0, EIGHT_TIGHT);
        dueUnchanged("countWith(62)", x -> x.countWith(62), 240, NO_DEMAND);
        dueUnchanged("countWith(62)", x -> x.countWith(62), 240, EIGHT_LOOSE);
    }

    // Promises 12 and 13

    private static void placesOutOfRange() {
        sentence = "Promise 12: BAD_ARG if t is not 0 to 5";
        for (int[] sets : STATES) {
            for (int t : NOT_THINGS) {
                dueUnchanged("places(" + t + ")", x -> x.places(t), BAD_ARG, sets);
            }
        }
        dueUnchanged("places(0)", x -> x.places(0), 63, NO_DEMAND);
        dueUnchanged("places(5)", x -> x.places(5), 63, NO_DEMAND);
        dueUnchanged("places(0)", x -> x.places(0), 33, EIGHT_TIGHT);
        dueUnchanged("places(5)", x -> x.places(5), 33, EIGHT_TIGHT);
        dueUnchanged("places(0)", x -> x.places(0), 33, 62);
        dueUnchanged("places(5)", x -> x.places(5), 33, 31);
    }

    private static void neighboursOutOfRange() {
        sentence = "Promise 13: BAD_ARG if t is not 0 to 5";
        for (int[] sets : STATES) {
            for (int t : NOT_THINGS) {
                dueUnchanged("neighbours(" + t + ")", x -> x.neighbours(t), BAD_ARG, sets);
            }
        }
        dueUnchanged("neighbours(0)", x -> x.neighbours(0), 62, NO_DEMAND);
        dueUnchanged("neighbours(5)", x -> x.neighbours(5), 31, NO_DEMAND);
        // At the ends of the row a thing has one neighbour; the row isn't a ring.
        dueUnchanged("neighbours(0)", x -> x.neighbours(0), 2, EIGHT_TIGHT);
        dueUnchanged("neighbours(5)", x -> x.neighbours(5), 16, EIGHT_TIGHT);
        dueUnchanged("neighbours(1)", x -> x.neighbours(1), 5, EIGHT_TIGHT);
    }

    // Promise 14

    private static void groupsOfAll64Sets() {
        sentence = "Promise 14: the empty set, those of one thing and that of all six are among the 64";
        dueUnchanged("groups()", x -> x.groups(), 1 + 6 + 1, NO_DEMAND);
        dueUnchanged("groups()", x -> x.groups(), 1 + 6 + 1, EIGHT_LOOSE);
        dueUnchanged("groups()", x -> x.groups(), 1 + 6 + 1, 63, 63);
        // The most: the empty set and the runs of 1 to 6 things of one order.
        dueUnchanged("groups()", x -> x.groups(), 1 + 6 + 5 + 4 + 3 + 2 + 1, CHAIN);
        dueUnchanged("groups()", x -> x.groups(), 1 + 6 + 5 + 4 + 3 + 2 + 1, EIGHT_TIGHT);
        for (int set = 0; set < 64; set++) {
            int size = Integer.bitCount(set);
            due("groups() with " + set, with(set).groups(), size < 2 || size == 6 ? 8 : 9);
        }
        for (int[] sets : STATES) {
            RowGroups x = with(sets);
            int found = 0;
            for (int set = 0; set < 64; set++) {
                found += x.together(set) ? 1 : 0;
            }
            due("groups() with " + Arrays.toString(sets), x.groups(), found);
            for (int set : IDLE) {
                due("together(" + set + ")", x.together(set), true);
            }
            due("together(63)", x.together(63), true);
        }
    }

    /** A throw counts against the sentence tested and leaves the other tests to run. */
    private static void run(Runnable test) {
        try {
            test.run();
        } catch (RuntimeException thrown) {
            wrong++;
            System.out.println(sentence + " | a call threw " + thrown);
        }
    }

    public static void main(String[] args) {
        Runnable[] tests = {
            RowGroupsBoundaries::atMostEight, RowGroupsBoundaries::setsAreSumsOfPowers,
            RowGroupsBoundaries::emptyAndSingleDemandNothing, RowGroupsBoundaries::alwaysAGoodOrder,
            RowGroupsBoundaries::noCallThrows, RowGroupsBoundaries::refusedChangesNothing,
            RowGroupsBoundaries::lastCallOf512, RowGroupsBoundaries::newHasNoDemand,
            RowGroupsBoundaries::demandOutOfRange, RowGroupsBoundaries::demandWhenFull,
            RowGroupsBoundaries::demandLeavesNoOrder, RowGroupsBoundaries::demandTestsInOrder,
            RowGroupsBoundaries::demandAnswersTheNumber, RowGroupsBoundaries::undoOfNone,
            RowGroupsBoundaries::undoAnswersTheSet, RowGroupsBoundaries::clearAnswersHowMany,
            RowGroupsBoundaries::numberOfDemands, RowGroupsBoundaries::numberOfGoodOrders,
            RowGroupsBoundaries::firstOutOfRange, RowGroupsBoundaries::lastOutOfRange,
            RowGroupsBoundaries::allowedWithEight, RowGroupsBoundaries::allowedOutOfRange,
            RowGroupsBoundaries::togetherOutOfRange, RowGroupsBoundaries::countWithOutOfRange,
            RowGroupsBoundaries::placesOutOfRange, RowGroupsBoundaries::neighboursOutOfRange,
            RowGroupsBoundaries::groupsOfAll64Sets
        };
        for (Runnable test : tests) {
            run(test);
        }
        System.out.println(wrong == 0 ? "all answers are as due" : wrong + " answers are not as due");
        if (wrong != 0) {
            System.exit(1);
        }
    }
}
