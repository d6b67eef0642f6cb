import java.util.TreeSet;

/** The class against ListModel: single calls with arguments round the edges, and long mixed runs. */
public final class ModelTest {
    private static final String[] NAMES = {
        "insert", "remove", "length", "get", "reverse", "add", "move", "twice",
        "sum", "greatest", "smallest", "firstAtLeast", "clear",
    };
    private static final int[] PARAMETERS = {2, 2, 0, 1, 2, 3, 3, 2, 2, 2, 2, 2, 0};
    private static final int CLEAR = 12;
    private static final int[] FAR = {
        Integer.MIN_VALUE, Integer.MIN_VALUE + 1, -2000001, -2000000, -1000001, -1000000, -999999,
        999999, 1000000, 1000001, 2000000, 2000001, Integer.MAX_VALUE - 1, Integer.MAX_VALUE,
    };
    // The document promises 512 calls; a run leaves room for reading 40 places and the length.
    private static final int CALLS_OF_A_RUN = 512 - 41;
    private static final int RUNS = 2000;

    private static long state = 20261115L;

    public static void main(String[] args) {
        int[] lengths = {0, 1, 2, 3, 4, 5, 19, 20, 21, 39, 40};
        for (int length : lengths) {
            singleCalls(length);
        }
        for (int run = 1; run <= RUNS; run++) {
            mixedRun(run);
        }
        Check.end();
    }

    private static long answer(ReversibleRope rope, int which, int a, int b, int c) {
        switch (which) {
            case 0: return rope.insert(a, b);
            case 1: return rope.remove(a, b);
            case 2: return rope.length();
            case 3: return rope.get(a);
            case 4: return rope.reverse(a, b) ? 1 : 0;
            case 5: return rope.add(a, b, c) ? 1 : 0;
            case 6: return rope.move(a, b, c) ? 1 : 0;
            case 7: return rope.twice(a, b);
            case 8: return rope.sum(a, b);
            case 9: return rope.greatest(a, b);
            case 10: return rope.smallest(a, b);
            case 11: return rope.firstAtLeast(a, b);
            default: return rope.clear();
        }
    }

    private static void same(String before, ReversibleRope rope, ListModel model, int which, int a, int b, int c) {
        long want = model.answer(which, a, b, c);
        long got = answer(rope, which, a, b, c);
        Check.due(before + NAMES[which] + "(" + a + ", " + b + ", " + c + ")", got, want);
    }

    private static void sameInts(String before, ReversibleRope rope, ListModel model) {
        int[] want = model.ints.stream().mapToInt(x -> x).toArray();
        Check.holds(before, rope, want);
    }

    private static void singleCalls(int length) {
        int[] near = nearArguments(length);
        int[] none = {0};
        for (int which = 0; which < NAMES.length; which++) {
            int[] first = PARAMETERS[which] > 0 ? near : none;
            int[] second = PARAMETERS[which] > 1 ? near : none;
            int[] third = PARAMETERS[which] > 2 ? near : none;
            for (int a : first) {
                for (int b : second) {
                    for (int c : third) {
                        singleCall(length, which, a, b, c);
                    }
                }
            }
        }
    }

    /** Places round both ends and the middle, and ints far outside. */
    private static int[] nearArguments(int length) {
        TreeSet<Integer> chosen = new TreeSet<>();
        int[] middles = {0, length / 2, 40 - length, length};
        for (int middle : middles) {
            for (int step = -2; step <= 2; step++) {
                chosen.add(middle + step);
            }
        }
        chosen.add(Integer.MIN_VALUE);
        chosen.add(-1000000);
        chosen.add(1000000);
        chosen.add(Integer.MAX_VALUE);
        return chosen.stream().mapToInt(x -> x).toArray();
    }

    private static void singleCall(int length, int which, int a, int b, int c) {
        ReversibleRope rope = new ReversibleRope();
        ListModel model = new ListModel();
        for (int place = 0; place < length; place++) {
            // Neither rising nor falling, and of both signs.
            int value = (place * 7 + 3) % 41 - 20;
            rope.insert(place, value);
            model.ints.add(value);
        }
        String before = length + " ints, ";
        same(before, rope, model, which, a, b, c);
        sameInts(before + "then " + NAMES[which] + "(" + a + ", " + b + ", " + c + ")", rope, model);
    }

    private static void mixedRun(int run) {
        ReversibleRope rope = new ReversibleRope();
        ListModel model = new ListModel();
        for (int call = 1; call <= CALLS_OF_A_RUN; call++) {
            int which = next(NAMES.length);
            // Seldom, or no sequence would grow long.
            if (which == CLEAR && next(10) != 0 || which == 1 && next(2) != 0) {
                which = 0;
            }
            int a = place(model);
            int b = which == 0 || which == 11 ? value() : place(model);
            int c = which == 5 ? value() : place(model);
            if (which != 0 && which != 11 && a > b && next(8) != 0) {
                int kept = a;
                a = b;
                b = kept;
            }
            same("run " + run + " call " + call + ": ", rope, model, which, a, b, c);
        }
        sameInts("run " + run, rope, model);
    }

    private static int place(ListModel model) {
        if (next(30) == 0) {
            return FAR[next(FAR.length)];
        }
        return next(10) == 0 ? next(46) - 3 : next(model.ints.size() + 1);
    }

    private static int value() {
        int kind = next(10);
        if (kind == 0) {
            return FAR[next(FAR.length)];
        }
        return kind < 6 ? next(21) - 10 : next(2000001) - 1000000;
    }

    /** The same numbers at every run, so that a fault found once is found again. */
    private static int next(int bound) {
        state = state * 6364136223846793005L + 1442695040888963407L;
        return (int) ((state >>> 33) % bound);
    }
}
