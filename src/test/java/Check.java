/** Counts and prints the answers that are not as due; each test ends with end(). */
final class Check {
    /** One call on an object; a boolean answer counts 1 or 0. */
    interface Call {
        long on(ReversibleRope rope);
    }

    private static int wrong = 0;
    private static int checked = 0;

    private Check() {
    }

    static void due(String call, long got, long want) {
        checked++;
        if (got != want) {
            wrong++;
            System.out.println(call + " answered " + got + ", due is " + want);
        }
    }

    static void due(String call, boolean got, boolean want) {
        due(call, got ? 1L : 0L, want ? 1L : 0L);
    }

    static void holds(String call, ReversibleRope rope, int... want) {
        due(call + ": length()", rope.length(), want.length);
        for (int place = 0; place < want.length; place++) {
            due(call + ": get(" + place + ")", rope.get(place), want[place]);
        }
    }

    /** One call on a new object that holds `before`: its answer, and every int that is there afterwards. */
    static void call(String name, int[] before, Call call, long want, int... after) {
        ReversibleRope rope = rope(before);
        due(name, call.on(rope), want);
        holds(name, rope, after);
        due(name + ": behind the last place", rope.get(after.length), 0);
    }

    /** A call on a new object that holds `before` and must change nothing. */
    static void unchanged(String name, int[] before, Call call, long want) {
        call(name, before, call, want, before);
    }

    static int[] ints(int... values) {
        return values;
    }

    static ReversibleRope rope(int... values) {
        ReversibleRope rope = new ReversibleRope();
        for (int place = 0; place < values.length; place++) {
            rope.insert(place, values[place]);
        }
        return rope;
    }

    /** The ints first, first + 1, ... */
    static int[] upwards(int first, int howMany) {
        int[] values = new int[howMany];
        for (int place = 0; place < howMany; place++) {
            values[place] = first + place;
        }
        return values;
    }

    static void end() {
        System.out.println(checked + " answers looked at, " + wrong + " not as due");
        if (wrong != 0 || checked == 0) {
            System.exit(1);
        }
    }
}
