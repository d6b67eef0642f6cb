/**
 * Each sentence of the document that names a boundary case, in a test of its own that quotes it:
 * the last input inside, the first outside, the least and the greatest int, and that a refused call
 * changes nothing. Where one call is looked at, it has a new object, so that no other call can hide
 * what it did; a few tests need a run of calls on one object.
 */
public final class BoundariesTest {
    private static final int BAD = -1;
    private static final int FULL = -2;
    private static final int NONE = -3;
    private static final int NO = 0;
    private static final int YES = 1;
    private static final int MIN = Integer.MIN_VALUE;
    private static final int MAX = Integer.MAX_VALUE;
    private static final int TOP = 1000000;
    private static final int[] NOTHING = {};
    private static final int[] LENGTHS = {0, 1, 2, 4, 20, 21, 39, 40};

    private interface StretchCall {
        long on(ReversibleRope rope, int i, int j);
    }

    public static void main(String[] args) {
        whatItIsAndTerms();
        promises1To5();
        promises6To8();
        promises9To12();
        promises13To15();
        Check.end();
    }

    private static void whatItIsAndTerms() {
        usedFor512Calls();
        upToFortyInts();
        eachFromLowestToHighest();
        placesAreNumberedFrom0();
        stretchIsThePlacesFromIToJMinus1();
        stretchIsThereIff();
    }

    private static void promises1To5() {
        newObjectIsEmpty();
        insertBeforeWhatIsThere();
        insertFull();
        insertFullBeforeBad();
        insertPlaceBelow0OrAboveTheNumber();
        insertValueOutside();
        insertAnswersTheNumber();
        removeNotThere();
        removeAnswersTheNumberLeft();
        lengthIsTheNumber();
        getNoSuchPlace();
        getNoLongerSuchPlace();
    }

    private static void promises6To8() {
        reverseNotThere();
        reverseElseTrue();
        addNotThere();
        addSomeIntOutside();
        addComputedExactly();
        addIntsOutsideOfTheStretchDoNotCount();
        addElseTrue();
        moveNotThere();
        moveKBelow0();
        moveKAboveTheNumberOutside();
        moveFirstIntIsAtPlaceKThen();
    }

    private static void promises9To12() {
        twiceNotThere();
        twiceFull();
        twiceElseTheNumber();
        sumEmptyOrNotThere();
        sumOfTheGreatestAmounts();
        greatestEmptyOrNotThere();
        greatestBelow0();
        smallestEmptyOrNotThere();
        smallestAbove0();
    }

    private static void promises13To15() {
        firstAtLeastNotBelowI();
        firstAtLeastAnyI();
        firstAtLeastIsAtLeastValue();
        firstAtLeastNone();
        clearMakesEmpty();
        clearAnswersHowMany();
        twiceBadBeforeFull();
    }

    /** n ints above 0, all different: no place of it can be taken for one that is not there. */
    private static int[] ints(int n) {
        return Check.upwards(101, n);
    }

    private static long of(boolean answer) {
        return answer ? YES : NO;
    }

    private static String named(String name, int n, int i, int j) {
        return n + " ints: " + name + "(" + i + ", " + j + ")";
    }

    /** The ends of a sequence of n and of the ints, each with the first beyond it. */
    private static int[] edges(int n) {
        return new int[] {MIN, MIN + 1, -41, -40, -1, 0, 1, n - 1, n, n + 1, 39, 40, 41, MAX - 1, MAX};
    }

    /** Every stretch over edges() that is not there is refused with `refusal` and changes nothing. */
    private static void notThere(String name, StretchCall call, long refusal) {
        for (int n : LENGTHS) {
            for (int i : edges(n)) {
                for (int j : edges(n)) {
                    if (i < 0 || j < i || n < j) {
                        Check.unchanged(named(name, n, i, j), ints(n), rope -> call.on(rope, i, j), refusal);
                    }
                }
            }
        }
    }

    /** Every empty stretch that is there answers `answer` and changes nothing. */
    private static void empty(String name, StretchCall call, long answer) {
        for (int n : LENGTHS) {
            empty(name, call, n, answer);
        }
    }

    private static void empty(String name, StretchCall call, int n, long answer) {
        for (int i = 0; i <= n; i++) {
            int at = i;
            Check.unchanged(named(name, n, i, i), ints(n), rope -> call.on(rope, at, at), answer);
        }
    }

    // What it is: "An object is used for at most 512 calls after it has been made"
    private static void usedFor512Calls() {
        last("length", rope -> rope.length(), 4);
        last("get", rope -> rope.get(3), 104);
        last("insert", rope -> rope.insert(4, TOP), 5);
        last("insert", rope -> rope.insert(5, TOP), BAD);
        last("remove", rope -> rope.remove(0, 4), 0);
        last("reverse", rope -> of(rope.reverse(0, 4)), YES);
        last("add", rope -> of(rope.add(0, 4, TOP - 104)), YES);
        last("move", rope -> of(rope.move(0, 2, 2)), YES);
        last("twice", rope -> rope.twice(0, 4), 8);
        last("sum", rope -> rope.sum(0, 4), 410);
        last("greatest", rope -> rope.greatest(0, 4), 104);
        last("smallest", rope -> rope.smallest(0, 4), 101);
        last("firstAtLeast", rope -> rope.firstAtLeast(0, 104), 3);
        last("clear", rope -> rope.clear(), 4);
        lastReads();
        lastInsertOfMany();
    }

    /** 511 calls that leave 101 to 104 there, and then the 512th. */
    private static void last(String name, Check.Call call, long want) {
        ReversibleRope rope = used(511);
        Check.due("512th call: " + name, call.on(rope), want);
    }

    private static ReversibleRope used(int calls) {
        ReversibleRope rope = new ReversibleRope();
        int left = calls;
        while (left >= 12) {
            rope.clear();
            for (int place = 0; place < 4; place++) {
                rope.insert(place, 101 + place);
            }
            rope.twice(0, 4);
            rope.remove(4, 8);
            rope.add(0, 4, 1);
            rope.add(0, 4, -1);
            left = left - 9;
        }
        for (; left > 0; left--) {
            rope.insert(-1, 0);
        }
        return rope;
    }

    private static void lastReads() {
        ReversibleRope rope = used(507);
        for (int place = 0; place < 4; place++) {
            Check.due("calls 508 to 511: get(" + place + ")", rope.get(place), 101 + place);
        }
        Check.due("512th call: length()", rope.length(), 4);
    }

    /** Nothing may be used up by inserts that are cleared again: 480 inserts and 12 clears, then 20 more. */
    private static void lastInsertOfMany() {
        ReversibleRope rope = new ReversibleRope();
        for (int round = 1; round <= 12; round++) {
            for (int n = 1; n <= 40; n++) {
                Check.due("512 calls: insert of round " + round, rope.insert(0, n), n);
            }
            Check.due("512 calls: clear of round " + round, rope.clear(), 40);
        }
        for (int n = 1; n <= 20; n++) {
            Check.due("512 calls: the last inserts", rope.insert(0, n), n);
        }
    }

    // Terms: "A SEQUENCE of up to 40 ints"
    private static void upToFortyInts() {
        Check.call("the 40th at the end", ints(39), rope -> rope.insert(39, 140), 40, ints(40));
        Check.call("the 40th at the start", Check.upwards(102, 39), rope -> rope.insert(0, 101), 40, ints(40));
        Check.unchanged("the 41st by insert", ints(40), rope -> rope.insert(40, 141), FULL);
        Check.unchanged("the 41st by twice", ints(40), rope -> rope.twice(39, 40), FULL);
        Check.unchanged("the 40th place is there", ints(40), rope -> rope.get(39), 140);
        Check.unchanged("no 41st place is there", ints(40), rope -> rope.get(40), 0);
    }

    // Terms: "each from -1000000 to 1000000"
    private static void eachFromLowestToHighest() {
        Check.call("insert of the highest", NOTHING, rope -> rope.insert(0, TOP), 1, TOP);
        Check.call("insert of the lowest", NOTHING, rope -> rope.insert(0, -TOP), 1, -TOP);
        Check.unchanged("insert of one above", NOTHING, rope -> rope.insert(0, TOP + 1), BAD);
        Check.unchanged("insert of one below", NOTHING, rope -> rope.insert(0, -TOP - 1), BAD);
        Check.call("add up to the highest", Check.ints(TOP - 1), rope -> of(rope.add(0, 1, 1)), YES, TOP);
        Check.call("add down to the lowest", Check.ints(1 - TOP), rope -> of(rope.add(0, 1, -1)), YES, -TOP);
        Check.unchanged("add to one above", Check.ints(TOP), rope -> of(rope.add(0, 1, 1)), NO);
        Check.unchanged("add to one below", Check.ints(-TOP), rope -> of(rope.add(0, 1, -1)), NO);
    }

    // Terms: "its places are numbered from 0"
    private static void placesAreNumberedFrom0() {
        Check.unchanged("the first place", ints(3), rope -> rope.get(0), 101);
        Check.unchanged("the last place", ints(3), rope -> rope.get(2), 103);
        Check.unchanged("the first place of 40", ints(40), rope -> rope.get(0), 101);
        Check.unchanged("the last place of 40", ints(40), rope -> rope.get(39), 140);
        Check.unchanged("first found", ints(3), rope -> rope.firstAtLeast(0, 101), 0);
        Check.unchanged("last found", ints(3), rope -> rope.firstAtLeast(0, 103), 2);
    }

    // Terms: "A STRETCH (i, j) are the places from i to j - 1"
    private static void stretchIsThePlacesFromIToJMinus1() {
        int[] five = {1, 20, 300, 4000, 50000};
        Check.call("remove(1, 4)", five, rope -> rope.remove(1, 4), 2, 1, 50000);
        Check.call("reverse(1, 4)", five, rope -> of(rope.reverse(1, 4)), YES, 1, 4000, 300, 20, 50000);
        Check.call("add(1, 4, 5)", five, rope -> of(rope.add(1, 4, 5)), YES, 1, 25, 305, 4005, 50000);
        Check.call("move(1, 4, 0)", five, rope -> of(rope.move(1, 4, 0)), YES, 20, 300, 4000, 1, 50000);
        Check.call("twice(1, 4)", five, rope -> rope.twice(1, 4), 8, 1, 20, 300, 4000, 20, 300, 4000, 50000);
        Check.unchanged("sum(1, 4)", five, rope -> rope.sum(1, 4), 4320);
        Check.unchanged("greatest(1, 4)", five, rope -> rope.greatest(1, 4), 4000);
        Check.unchanged("smallest(1, 4)", five, rope -> rope.smallest(1, 4), 20);
    }

    // Terms: "it is there iff 0 <= i <= j <= the number of ints"
    private static void stretchIsThereIff() {
        for (int n = 0; n <= 40; n++) {
            for (int i = -1; i <= n + 1; i++) {
                for (int j = -1; j <= n + 1; j++) {
                    boolean there = 0 <= i && i <= j && j <= n;
                    ReversibleRope rope = Check.rope(ints(n));
                    Check.due(named("reverse", n, i, j), rope.reverse(i, j), there);
                    Check.due(named("add 1", n, i, j), rope.add(i, j, 1), there);
                    Check.due(named("move to 0", n, i, j), rope.move(i, j, 0), there);
                    Check.due(named("twice", n, i, j), rope.twice(i, j) != BAD, there);
                    Check.due(named("remove", n, i, j), Check.rope(ints(n)).remove(i, j), there ? n - (j - i) : BAD);
                }
            }
        }
    }

    // Promise 1: "An empty sequence."
    private static void newObjectIsEmpty() {
        Check.unchanged("new: length()", NOTHING, rope -> rope.length(), 0);
        Check.unchanged("new: clear()", NOTHING, rope -> rope.clear(), 0);
        Check.unchanged("new: remove(0, 0)", NOTHING, rope -> rope.remove(0, 0), 0);
        Check.unchanged("new: remove(0, 1)", NOTHING, rope -> rope.remove(0, 1), BAD);
        Check.unchanged("new: twice(0, 0)", NOTHING, rope -> rope.twice(0, 0), 0);
        Check.unchanged("new: firstAtLeast(MIN, MIN)", NOTHING, rope -> rope.firstAtLeast(MIN, MIN), NONE);
        Check.unchanged("new: insert(1, 7)", NOTHING, rope -> rope.insert(1, 7), BAD);
        Check.call("new: insert(0, 7)", NOTHING, rope -> rope.insert(0, 7), 1, 7);
        for (int place = 0; place < 40; place++) {
            int at = place;
            Check.unchanged("new: get(" + at + ")", NOTHING, rope -> rope.get(at), 0);
        }
    }

    // Promise 2: "Puts an int in at a place, before what is there."
    private static void insertBeforeWhatIsThere() {
        Check.call("insert into none", NOTHING, rope -> rope.insert(0, 9), 1, 9);
        Check.call("insert before the first", Check.ints(1, 2, 3), rope -> rope.insert(0, 9), 4, 9, 1, 2, 3);
        Check.call("insert before the last", Check.ints(1, 2, 3), rope -> rope.insert(2, 9), 4, 1, 2, 9, 3);
        Check.call("insert behind the last", Check.ints(1, 2, 3), rope -> rope.insert(3, 9), 4, 1, 2, 3, 9);
    }

    // Promise 2: "40 ints are there: FULL"
    private static void insertFull() {
        for (int place = 0; place <= 40; place++) {
            int at = place;
            Check.unchanged("40 ints: insert(" + at + ", 7)", ints(40), rope -> rope.insert(at, 7), FULL);
        }
        Check.call("39 ints: insert(39, 140)", ints(39), rope -> rope.insert(39, 140), 40, ints(40));
        ReversibleRope rope = Check.rope(ints(40));
        rope.insert(0, 7);
        rope.remove(39, 40);
        Check.due("no longer FULL after a remove", rope.insert(39, 140), 40);
        Check.due("FULL again", rope.insert(39, 140), FULL);
        Check.holds("FULL again", rope, ints(40));
    }

    // Promise 2: "Tested in this order: 40 ints are there: FULL; place [...] or value [...]: BAD"
    private static void insertFullBeforeBad() {
        int[] places = {MIN, -1, 0, 39, 40, 41, MAX};
        int[] values = {MIN, -TOP - 1, -TOP, 0, TOP, TOP + 1, MAX};
        for (int place : places) {
            for (int value : values) {
                String name = named("insert", 40, place, value);
                Check.unchanged(name, ints(40), rope -> rope.insert(place, value), FULL);
            }
        }
        Check.unchanged("39 ints are not FULL: place", ints(39), rope -> rope.insert(40, 7), BAD);
        Check.unchanged("39 ints are not FULL: value", ints(39), rope -> rope.insert(39, TOP + 1), BAD);
    }

    // Promise 2: "place below 0 or above the number of ints [...]: BAD"
    private static void insertPlaceBelow0OrAboveTheNumber() {
        for (int n = 0; n <= 39; n++) {
            int[] outside = {MIN, MIN + 1, -40, -1, n + 1, n + 2, 41, MAX - 1, MAX};
            for (int place : outside) {
                Check.unchanged(named("insert", n, place, 7), ints(n), rope -> rope.insert(place, 7), BAD);
            }
            int length = n;
            int value = 101 + n;
            Check.call(named("insert", n, n, value), ints(n), rope -> rope.insert(length, value), n + 1, ints(n + 1));
            int[] behindFirst = Check.upwards(102, n);
            Check.call(named("insert", n, 0, 101), behindFirst, rope -> rope.insert(0, 101), n + 1, ints(n + 1));
        }
    }

    // Promise 2: "or value outside -1000000..1000000: BAD"
    private static void insertValueOutside() {
        int[] outside = {MIN, MIN + 1, -TOP - 2, -TOP - 1, TOP + 1, TOP + 2, MAX - 1, MAX};
        for (int value : outside) {
            for (int place = 0; place <= 2; place++) {
                int at = place;
                Check.unchanged(named("insert", 2, at, value), ints(2), rope -> rope.insert(at, value), BAD);
            }
            Check.unchanged(named("insert", 2, 3, value), ints(2), rope -> rope.insert(3, value), BAD);
        }
        int[] inside = {-TOP, -TOP + 1, -1, 0, 1, TOP - 1, TOP};
        for (int value : inside) {
            Check.call(named("insert", 2, 1, value), ints(2), rope -> rope.insert(1, value), 3, 101, value, 102);
        }
    }

    // Promise 2: "Else answers the number of ints."
    private static void insertAnswersTheNumber() {
        ReversibleRope rope = new ReversibleRope();
        for (int n = 1; n <= 40; n++) {
            Check.due("insert number " + n, rope.insert(n / 2, -n), n);
            Check.due("insert refused at " + n, rope.insert(-1, 0), n == 40 ? FULL : BAD);
        }
    }

    // Promise 3: "It is not there: BAD."
    private static void removeNotThere() {
        notThere("remove", (rope, i, j) -> rope.remove(i, j), BAD);
    }

    // Promise 3: "Else answers the number of ints left."
    private static void removeAnswersTheNumberLeft() {
        for (int n : LENGTHS) {
            empty("remove", (rope, i, j) -> rope.remove(i, j), n, n);
            Check.call(named("remove", n, 0, n), ints(n), rope -> rope.remove(0, n), 0);
        }
        Check.call("remove the first of 40", ints(40), rope -> rope.remove(0, 1), 39, Check.upwards(102, 39));
        Check.call("remove the last of 40", ints(40), rope -> rope.remove(39, 40), 39, ints(39));
        Check.call("remove all but the first", ints(40), rope -> rope.remove(1, 40), 1, 101);
        Check.call("remove all but the last", ints(40), rope -> rope.remove(0, 39), 1, 140);
    }

    // Promise 4: "The number of ints."
    private static void lengthIsTheNumber() {
        for (int n = 0; n <= 40; n++) {
            Check.unchanged(n + " ints: length()", ints(n), rope -> rope.length(), n);
        }
        ReversibleRope rope = Check.rope(ints(40));
        rope.insert(0, 7);
        Check.due("length() after a FULL insert", rope.length(), 40);
        rope.twice(0, 1);
        Check.due("length() after a FULL twice", rope.length(), 40);
        rope.remove(0, 41);
        Check.due("length() after a BAD remove", rope.length(), 40);
    }

    // Promise 5: "0 if there is no such place."
    private static void getNoSuchPlace() {
        for (int n = 0; n <= 40; n++) {
            int[] outside = {MIN, MIN + 1, -41, -1, n, n + 1, 40, 41, MAX - 1, MAX};
            for (int place : outside) {
                Check.unchanged(n + " ints: get(" + place + ")", ints(n), rope -> rope.get(place), 0);
            }
            for (int place = 0; place < n; place++) {
                int at = place;
                Check.unchanged(n + " ints: get(" + place + ")", ints(n), rope -> rope.get(at), 101 + at);
            }
        }
    }

    // Promise 5, of a place that was there and is so no longer
    private static void getNoLongerSuchPlace() {
        ReversibleRope rope = Check.rope(ints(40));
        rope.remove(1, 40);
        for (int place = 1; place <= 40; place++) {
            Check.due("get(" + place + ") after remove", rope.get(place), 0);
        }
        rope.clear();
        Check.due("get(0) after clear", rope.get(0), 0);
    }

    // Promise 6: "It is not there: refused, answers false."
    private static void reverseNotThere() {
        notThere("reverse", (rope, i, j) -> of(rope.reverse(i, j)), NO);
    }

    // Promise 6: "Else true.", down to stretches that have nothing to turn
    private static void reverseElseTrue() {
        empty("reverse", (rope, i, j) -> of(rope.reverse(i, j)), YES);
        for (int i = 0; i < 40; i++) {
            int at = i;
            Check.unchanged(named("reverse", 40, i, i + 1), ints(40), rope -> of(rope.reverse(at, at + 1)), YES);
        }
        Check.call("reverse of two", Check.ints(1, 2), rope -> of(rope.reverse(0, 2)), YES, 2, 1);
        Check.call("reverse of three", Check.ints(1, 2, 3), rope -> of(rope.reverse(0, 3)), YES, 3, 2, 1);
        int[] turned = new int[40];
        for (int place = 0; place < 40; place++) {
            turned[place] = 140 - place;
        }
        Check.call("reverse of all 40", ints(40), rope -> of(rope.reverse(0, 40)), YES, turned);
    }

    // Promise 7: "It is not there [...]: refused, answers false, and nothing changes."
    private static void addNotThere() {
        int[] amounts = {MIN, -1, 0, 1, MAX};
        for (int more : amounts) {
            notThere("add " + more, (rope, i, j) -> of(rope.add(i, j, more)), NO);
        }
    }

    // Promise 7: "or some int of it would be outside -1000000..1000000 then [...]: refused"
    private static void addSomeIntOutside() {
        for (int at = 0; at < 5; at++) {
            int[] high = {0, 0, 0, 0, 0};
            high[at] = 1;
            Check.unchanged("add: high at " + at, high, rope -> of(rope.add(0, 5, TOP)), NO);
            int[] low = {0, 0, 0, 0, 0};
            low[at] = -1;
            Check.unchanged("add: low at " + at, low, rope -> of(rope.add(0, 5, -TOP)), NO);
        }
        Check.call("add: just inside above", Check.ints(1, 0), rope -> of(rope.add(0, 2, TOP - 1)), YES, TOP, TOP - 1);
        Check.call("add: just inside below", Check.ints(-1, 0), rope -> of(rope.add(0, 2, 1 - TOP)), YES, -TOP, 1 - TOP);
        Check.call("add: from end to end", Check.ints(-TOP), rope -> of(rope.add(0, 1, 2 * TOP)), YES, TOP);
        Check.call("add: and back", Check.ints(TOP), rope -> of(rope.add(0, 1, -2 * TOP)), YES, -TOP);
        Check.unchanged("add: beyond the end", Check.ints(-TOP), rope -> of(rope.add(0, 1, 2 * TOP + 1)), NO);
        Check.unchanged("add: and back", Check.ints(TOP), rope -> of(rope.add(0, 1, -2 * TOP - 1)), NO);
        Check.unchanged("add: both ends, up", Check.ints(-TOP, TOP), rope -> of(rope.add(0, 2, 1)), NO);
        Check.unchanged("add: both ends, down", Check.ints(-TOP, TOP), rope -> of(rope.add(0, 2, -1)), NO);
    }

    // Promise 7: "(computed exactly)", where an int would wrap round
    private static void addComputedExactly() {
        int[] starts = {-TOP, -1, 0, 1, TOP};
        int[] amounts = {MIN, MIN + 1, MIN + TOP, MAX - TOP, MAX - 1, MAX};
        for (int start : starts) {
            for (int more : amounts) {
                String name = start + ": add(0, 1, " + more + ")";
                Check.unchanged(name, Check.ints(start), rope -> of(rope.add(0, 1, more)), NO);
            }
        }
    }

    // Promise 7: "some int of it": of the stretch, not of the rest
    private static void addIntsOutsideOfTheStretchDoNotCount() {
        int[] tops = {TOP, 0, 0, TOP};
        Check.call("add beside the highest", tops, rope -> of(rope.add(1, 3, TOP)), YES, TOP, TOP, TOP, TOP);
        Check.unchanged("add with the one before", tops, rope -> of(rope.add(0, 3, 1)), NO);
        Check.unchanged("add with the one behind", tops, rope -> of(rope.add(1, 4, 1)), NO);
        int[] lows = {-TOP, 0, 0, -TOP};
        Check.call("add beside the lowest", lows, rope -> of(rope.add(1, 3, -TOP)), YES, -TOP, -TOP, -TOP, -TOP);
        ReversibleRope rope = Check.rope(TOP, TOP, 0);
        rope.remove(0, 2);
        Check.due("add where a removed int was", rope.add(0, 1, TOP), true);
        Check.holds("add where a removed int was", rope, TOP);
    }

    // Promise 7: "Else true.", also where there is no int to add to
    private static void addElseTrue() {
        int[] amounts = {MIN, -TOP - 1, 0, TOP + 1, MAX};
        for (int more : amounts) {
            empty("add " + more, (rope, i, j) -> of(rope.add(i, j, more)), YES);
        }
        Check.unchanged("add of 0", Check.ints(TOP, -TOP), rope -> of(rope.add(0, 2, 0)), YES);
        Check.call("add to all 40", ints(40), rope -> of(rope.add(0, 40, 100)), YES, Check.upwards(201, 40));
    }

    // Promise 8: "The stretch is not there [...]: refused, answers false."
    private static void moveNotThere() {
        int[] targets = {MIN, -1, 0, 1, 4, 40, MAX};
        for (int k : targets) {
            notThere("move to " + k, (rope, i, j) -> of(rope.move(i, j, k)), NO);
        }
    }

    // Promise 8: "or k is below 0 [...]: refused, answers false."
    private static void moveKBelow0() {
        int[] below = {MIN, MIN + 1, -41, -40, -2, -1};
        for (int n : LENGTHS) {
            for (int k : below) {
                Check.unchanged(named("move to " + k, n, 0, 0), ints(n), rope -> of(rope.move(0, 0, k)), NO);
                Check.unchanged(named("move to " + k, n, 0, n), ints(n), rope -> of(rope.move(0, n, k)), NO);
                Check.unchanged(named("move to " + k, n, n, n), ints(n), rope -> of(rope.move(n, n, k)), NO);
                Check.unchanged(named("move to " + k, n, n / 2, n), ints(n), rope -> of(rope.move(n / 2, n, k)), NO);
            }
        }
    }

    // Promise 8: "or above the number of ints outside of it: refused, answers false."
    private static void moveKAboveTheNumberOutside() {
        for (int n : LENGTHS) {
            for (int i = 0; i <= n; i++) {
                for (int j = i; j <= n; j++) {
                    moveRoundTheEnd(n, i, j);
                }
            }
        }
    }

    private static void moveRoundTheEnd(int n, int i, int j) {
        int outside = n - (j - i);
        int[] above = {outside + 1, outside + 2, n + 1, 41, MAX - 1, MAX};
        for (int k : above) {
            Check.unchanged(named("move to " + k, n, i, j), ints(n), rope -> of(rope.move(i, j, k)), NO);
        }
        int[] after = new int[n];
        for (int place = 0; place < n; place++) {
            int from = place < i ? place : place < outside ? place + j - i : i + place - outside;
            after[place] = 101 + from;
        }
        Check.call(named("move to the end", n, i, j), ints(n), rope -> of(rope.move(i, j, outside)), YES, after);
    }

    // Promise 8: "so that its first int is at place k of the sequence then"
    private static void moveFirstIntIsAtPlaceKThen() {
        int[] six = {0, 1, 2, 3, 4, 5};
        Check.call("move(2, 4, 0)", six, rope -> of(rope.move(2, 4, 0)), YES, 2, 3, 0, 1, 4, 5);
        Check.call("move(2, 4, 1)", six, rope -> of(rope.move(2, 4, 1)), YES, 0, 2, 3, 1, 4, 5);
        Check.unchanged("move(2, 4, 2)", six, rope -> of(rope.move(2, 4, 2)), YES);
        Check.call("move(2, 4, 3)", six, rope -> of(rope.move(2, 4, 3)), YES, 0, 1, 4, 2, 3, 5);
        Check.call("move(2, 4, 4)", six, rope -> of(rope.move(2, 4, 4)), YES, 0, 1, 4, 5, 2, 3);
        Check.unchanged("move(2, 4, 5)", six, rope -> of(rope.move(2, 4, 5)), NO);
        Check.unchanged("move(0, 6, 0)", six, rope -> of(rope.move(0, 6, 0)), YES);
        Check.unchanged("move(0, 6, 1)", six, rope -> of(rope.move(0, 6, 1)), NO);
        for (int k = 0; k <= 40; k++) {
            int to = k;
            empty("move to " + k, (rope, i, j) -> of(rope.move(i, j, to)), 40, YES);
        }
    }

    // Promise 9: "The stretch is not there: BAD"
    private static void twiceNotThere() {
        notThere("twice", (rope, i, j) -> rope.twice(i, j), BAD);
    }

    // Promise 9: "more than 40 ints would be there: FULL."
    private static void twiceFull() {
        for (int n = 21; n <= 40; n++) {
            int tooMany = 41 - n;
            for (int i = 0; i + tooMany <= n; i++) {
                int at = i;
                String name = named("twice", n, i, i + tooMany);
                Check.unchanged(name, ints(n), rope -> rope.twice(at, at + tooMany), FULL);
            }
            int all = n;
            Check.unchanged(named("twice", n, 0, n), ints(n), rope -> rope.twice(0, all), FULL);
        }
    }

    // Promise 9: "Else answers the number of ints.", up to the 40th
    private static void twiceElseTheNumber() {
        for (int n = 20; n <= 40; n++) {
            int size = 40 - n;
            for (int i = 0; i + size <= n; i++) {
                int at = i;
                int[] after = new int[40];
                for (int place = 0; place < 40; place++) {
                    after[place] = 101 + (place < i + size ? place : place - size);
                }
                String name = named("twice", n, i, i + size);
                Check.call(name, ints(n), rope -> rope.twice(at, at + size), 40, after);
            }
        }
        for (int n : LENGTHS) {
            empty("twice", (rope, i, j) -> rope.twice(i, j), n, n);
        }
    }

    // Promise 10: "(0 for an empty one or one that is not there)"
    private static void sumEmptyOrNotThere() {
        empty("sum", (rope, i, j) -> rope.sum(i, j), 0);
        notThere("sum", (rope, i, j) -> rope.sum(i, j), 0);
        Check.unchanged("sum of the first", ints(4), rope -> rope.sum(0, 1), 101);
        Check.unchanged("sum of the last", ints(4), rope -> rope.sum(3, 4), 104);
        Check.unchanged("sum of all", ints(4), rope -> rope.sum(0, 4), 410);
    }

    // Promise 10: "The sum of a stretch", of 40 ints at either end of what an int may be
    private static void sumOfTheGreatestAmounts() {
        int[] high = new int[40];
        int[] low = new int[40];
        for (int place = 0; place < 40; place++) {
            high[place] = TOP;
            low[place] = -TOP;
        }
        Check.unchanged("sum of the highest", high, rope -> rope.sum(0, 40), 40000000);
        Check.unchanged("sum of the lowest", low, rope -> rope.sum(0, 40), -40000000);
    }

    // Promise 11: "0 for an empty one or one that is not there."
    private static void greatestEmptyOrNotThere() {
        empty("greatest", (rope, i, j) -> rope.greatest(i, j), 0);
        notThere("greatest", (rope, i, j) -> rope.greatest(i, j), 0);
        Check.unchanged("greatest of the first", ints(4), rope -> rope.greatest(0, 1), 101);
        Check.unchanged("greatest of the last", ints(4), rope -> rope.greatest(3, 4), 104);
        Check.unchanged("greatest of all 40", ints(40), rope -> rope.greatest(0, 40), 140);
    }

    // Promise 11: "The greatest int of a stretch", where 0 is greater than each of them
    private static void greatestBelow0() {
        int[] below = {-TOP, -7, -1, -TOP};
        Check.unchanged("greatest of the lowest", below, rope -> rope.greatest(0, 1), -TOP);
        Check.unchanged("greatest below 0", below, rope -> rope.greatest(0, 4), -1);
        Check.unchanged("greatest without the one behind", below, rope -> rope.greatest(0, 2), -7);
        Check.unchanged("greatest without the ones before", below, rope -> rope.greatest(3, 4), -TOP);
        int[] equal = {-TOP, -TOP};
        Check.unchanged("greatest of equals", equal, rope -> rope.greatest(0, 2), -TOP);
        int[] top = {0, TOP, 0};
        Check.unchanged("greatest is the highest", top, rope -> rope.greatest(0, 3), TOP);
    }

    // Promise 12: "0 for an empty one or one that is not there."
    private static void smallestEmptyOrNotThere() {
        empty("smallest", (rope, i, j) -> rope.smallest(i, j), 0);
        notThere("smallest", (rope, i, j) -> rope.smallest(i, j), 0);
        Check.unchanged("smallest of the first", ints(4), rope -> rope.smallest(0, 1), 101);
        Check.unchanged("smallest of the last", ints(4), rope -> rope.smallest(3, 4), 104);
        Check.unchanged("smallest of all 40", ints(40), rope -> rope.smallest(0, 40), 101);
    }

    // Promise 12: "The smallest int of a stretch", where 0 is smaller than each of them
    private static void smallestAbove0() {
        int[] above = {TOP, 7, 1, TOP};
        Check.unchanged("smallest of the highest", above, rope -> rope.smallest(0, 1), TOP);
        Check.unchanged("smallest above 0", above, rope -> rope.smallest(0, 4), 1);
        Check.unchanged("smallest without the one behind", above, rope -> rope.smallest(0, 2), 7);
        Check.unchanged("smallest without the ones before", above, rope -> rope.smallest(3, 4), TOP);
        int[] equal = {TOP, TOP};
        Check.unchanged("smallest of equals", equal, rope -> rope.smallest(0, 2), TOP);
        int[] low = {0, -TOP, 0};
        Check.unchanged("smallest is the lowest", low, rope -> rope.smallest(0, 3), -TOP);
    }

    // Promise 13: "The smallest place, not below i"
    private static void firstAtLeastNotBelowI() {
        int[] four = {9, 5, 9, 5};
        Check.unchanged("firstAtLeast from its place", four, rope -> rope.firstAtLeast(0, 9), 0);
        Check.unchanged("firstAtLeast from behind it", four, rope -> rope.firstAtLeast(1, 9), 2);
        Check.unchanged("firstAtLeast from the second", four, rope -> rope.firstAtLeast(2, 9), 2);
        Check.unchanged("firstAtLeast from the last place", four, rope -> rope.firstAtLeast(3, 5), 3);
        Check.unchanged("firstAtLeast, none from there on", four, rope -> rope.firstAtLeast(3, 9), NONE);
        for (int i = 0; i < 40; i++) {
            int from = i;
            Check.unchanged("firstAtLeast(" + i + ", MIN)", ints(40), rope -> rope.firstAtLeast(from, MIN), from);
        }
    }

    // Promise 13: "i (any int)"
    private static void firstAtLeastAnyI() {
        int[] below = {MIN, MIN + 1, -41, -40, -1, 0};
        int[] above = {40, 41, MAX - 1, MAX};
        for (int n : LENGTHS) {
            for (int i : below) {
                String name = named("firstAtLeast", n, i, 0);
                Check.unchanged(name, ints(n), rope -> rope.firstAtLeast(i, 0), n == 0 ? NONE : 0);
            }
            for (int i : above) {
                Check.unchanged(named("firstAtLeast", n, i, MIN), ints(n), rope -> rope.firstAtLeast(i, MIN), NONE);
            }
            Check.unchanged(named("firstAtLeast", n, n, MIN), ints(n), rope -> rope.firstAtLeast(n, MIN), NONE);
        }
    }

    // Promise 13: "whose int is at least value"
    private static void firstAtLeastIsAtLeastValue() {
        int[] ends = {-TOP, 0, TOP};
        Check.unchanged("at least MIN", ends, rope -> rope.firstAtLeast(0, MIN), 0);
        Check.unchanged("at least the lowest", ends, rope -> rope.firstAtLeast(0, -TOP), 0);
        Check.unchanged("at least one above it", ends, rope -> rope.firstAtLeast(0, -TOP + 1), 1);
        Check.unchanged("at least 0", ends, rope -> rope.firstAtLeast(0, 0), 1);
        Check.unchanged("at least 1", ends, rope -> rope.firstAtLeast(0, 1), 2);
        Check.unchanged("at least the highest", ends, rope -> rope.firstAtLeast(0, TOP), 2);
    }

    // Promise 13: "NONE if there is none."
    private static void firstAtLeastNone() {
        int[] ends = {-TOP, 0, TOP};
        Check.unchanged("above the highest", ends, rope -> rope.firstAtLeast(0, TOP + 1), NONE);
        Check.unchanged("at least MAX", ends, rope -> rope.firstAtLeast(0, MAX), NONE);
        Check.unchanged("at least MAX from MIN", ends, rope -> rope.firstAtLeast(MIN, MAX), NONE);
        Check.unchanged("none of 40", ints(40), rope -> rope.firstAtLeast(0, 141), NONE);
        Check.unchanged("the last of 40", ints(40), rope -> rope.firstAtLeast(0, 140), 39);
        Check.unchanged("empty", NOTHING, rope -> rope.firstAtLeast(0, MIN), NONE);
        ReversibleRope rope = Check.rope(ints(40));
        rope.remove(10, 40);
        Check.due("none where ints were removed", rope.firstAtLeast(0, 111), NONE);
        rope.clear();
        Check.due("none where ints were cleared", rope.firstAtLeast(0, MIN), NONE);
    }

    // Promise 14: "Makes the sequence empty"
    private static void clearMakesEmpty() {
        for (int n : LENGTHS) {
            ReversibleRope rope = Check.rope(ints(n));
            rope.clear();
            Check.holds(n + " ints: clear()", rope);
            for (int place = 0; place <= 40; place++) {
                Check.due(n + " ints cleared: get(" + place + ")", rope.get(place), 0);
            }
            Check.due(n + " ints cleared: insert(1, 7)", rope.insert(1, 7), BAD);
            Check.due(n + " ints cleared: reverse(0, 1)", rope.reverse(0, 1), false);
            for (int place = 0; place < 40; place++) {
                Check.due(n + " ints cleared: insert again", rope.insert(place, -place), place + 1);
            }
            for (int place = 0; place < 40; place++) {
                Check.due(n + " ints cleared: get again", rope.get(place), -place);
            }
        }
    }

    // Promise 14: "answers how many ints it had"
    private static void clearAnswersHowMany() {
        for (int n = 0; n <= 40; n++) {
            Check.call(n + " ints: clear()", ints(n), rope -> rope.clear(), n);
        }
        ReversibleRope rope = Check.rope(ints(40));
        rope.clear();
        Check.due("clear() again", rope.clear(), 0);
    }

    // Promise 15: "twice: BAD is tested before FULL."
    private static void twiceBadBeforeFull() {
        for (int n = 21; n <= 40; n++) {
            int all = n;
            Check.unchanged(named("twice", n, 0, n), ints(n), rope -> rope.twice(0, all), FULL);
            int[] behind = {n + 1, n + 2, 41, 80, MAX - 1, MAX};
            for (int j : behind) {
                Check.unchanged(named("twice", n, 0, j), ints(n), rope -> rope.twice(0, j), BAD);
            }
            int[] before = {-1, -2, -40, MIN + 1, MIN};
            for (int i : before) {
                Check.unchanged(named("twice", n, i, n), ints(n), rope -> rope.twice(i, all), BAD);
                Check.unchanged(named("twice", n, i, MAX), ints(n), rope -> rope.twice(i, MAX), BAD);
            }
            Check.unchanged(named("twice", n, n, 0), ints(n), rope -> rope.twice(all, 0), BAD);
            Check.unchanged(named("twice", n, MAX, MIN), ints(n), rope -> rope.twice(MAX, MIN), BAD);
        }
    }
}
