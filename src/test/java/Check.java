/** Counts and prints the answers that are not as due; each test ends with end(). */
final class Check {
    private static int wrong = 0;
    private static int checked = 0;

    private Check() {
    }

    static void due(String call, long got, long want) {
        checked++;
        if (got != want) {
            wrong++;
            System.out.println(call + " answered " + got + ", due is " + want);
        }
    }

    static void due(String call, boolean got, boolean want) {
        due(call, got ? 1L : 0L, want ? 1L : 0L);
    }

    static void holds(String call, ReversibleRope rope, int... want) {
        due(call + ": length()", rope.length(), want.length);
        for (int place = 0; place < want.length; place++) {
            due(call + ": get(" + place + ")", rope.get(place), want[place]);
        }
    }

    static ReversibleRope rope(int... values) {
        ReversibleRope rope = new ReversibleRope();
        for (int place = 0; place < values.length; place++) {
            rope.insert(place, values[place]);
        }
        return rope;
    }

    /** The ints first, first + 1, ... */
    static int[] upwards(int first, int howMany) {
        int[] values = new int[howMany];
        for (int place = 0; place < howMany; place++) {
            values[place] = first + place;
        }
        return values;
    }

    static void end() {
        System.out.println(checked + " answers looked at, " + wrong + " not as due");
        if (wrong != 0 || checked == 0) {
            System.exit(1);
        }
    }
}
