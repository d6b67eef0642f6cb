/** Each promise of the document by its number: ordinary inputs, edges and wrong inputs. */
public final class PromisesTest {
    private static final int MIN = Integer.MIN_VALUE;
    private static final int MAX = Integer.MAX_VALUE;
    private static final int TOP = 1000000;

    /** Stretches that are not there in a sequence of four ints. */
    private static final int[][] NOT_THERE_IN_FOUR = {
        {-1, 2}, {-1, -1}, {-2, -1}, {2, 1}, {4, 3}, {1, 0}, {0, -1}, {0, 5}, {4, 5}, {5, 5}, {5, 4},
        {MIN, MAX}, {MIN, MIN}, {MAX, MAX}, {MAX, MIN}, {0, MAX}, {0, MIN}, {MIN, 0}, {MIN, 4}, {MAX, 4}, {4, MAX},
    };

    public static void main(String[] args) {
        newObject();
        insert();
        insertRefusals();
        remove();
        length();
        get();
        reverse();
        add();
        addRefusals();
        move();
        moveRefusals();
        twice();
        sum();
        greatest();
        smallest();
        firstAtLeast();
        clear();
        orderAndLimits();
        objectsStandAlone();
        Check.end();
    }

    // Promise 1
    private static void newObject() {
        ReversibleRope rope = new ReversibleRope();
        Check.due("1: length()", rope.length(), 0);
        Check.due("1: get(0)", rope.get(0), 0);
        Check.due("1: sum(0, 0)", rope.sum(0, 0), 0);
        Check.due("1: firstAtLeast(0, MIN)", rope.firstAtLeast(0, MIN), -3);
        Check.due("1: remove(0, 1)", rope.remove(0, 1), -1);
        Check.due("1: clear()", rope.clear(), 0);
    }

    // Promise 2
    private static void insert() {
        ReversibleRope rope = new ReversibleRope();
        Check.due("2: first", rope.insert(0, 10), 1);
        Check.due("2: at the end", rope.insert(1, 30), 2);
        Check.due("2: between", rope.insert(1, 20), 3);
        Check.due("2: at the start", rope.insert(0, 5), 4);
        Check.holds("2", rope, 5, 10, 20, 30);
        Check.due("2: highest", rope.insert(4, TOP), 5);
        Check.due("2: lowest", rope.insert(4, -TOP), 6);
        Check.holds("2: edges", rope, 5, 10, 20, 30, -TOP, TOP);
    }

    private static void insertRefusals() {
        ReversibleRope rope = Check.rope(1, 2);
        int[] wrongPlaces = {-1, 3, 4, 40, 41, MIN, MAX};
        for (int place : wrongPlaces) {
            Check.due("2: insert(" + place + ", 7)", rope.insert(place, 7), -1);
        }
        int[] wrongValues = {TOP + 1, -TOP - 1, MIN, MAX};
        for (int value : wrongValues) {
            Check.due("2: insert(1, " + value + ")", rope.insert(1, value), -1);
        }
        Check.holds("2: refused", rope, 1, 2);

        ReversibleRope nearlyFull = Check.rope(Check.upwards(0, 39));
        Check.due("2: the 40th", nearlyFull.insert(39, 39), 40);
        Check.due("2: the 41st", nearlyFull.insert(0, 7), -2);
        Check.due("2: the 41st at the end", nearlyFull.insert(40, 7), -2);
        Check.due("2: FULL before a wrong place", nearlyFull.insert(-1, 7), -2);
        Check.due("2: FULL before a place too far", nearlyFull.insert(MAX, 7), -2);
        Check.due("2: FULL before a wrong value", nearlyFull.insert(0, MAX), -2);
        Check.holds("2: full", nearlyFull, Check.upwards(0, 40));
    }

    // Promise 3
    private static void remove() {
        ReversibleRope rope = Check.rope(Check.upwards(0, 8));
        Check.due("3: remove(2, 4)", rope.remove(2, 4), 6);
        Check.holds("3: between", rope, 0, 1, 4, 5, 6, 7);
        Check.due("3: remove(0, 1)", rope.remove(0, 1), 5);
        Check.holds("3: start", rope, 1, 4, 5, 6, 7);
        Check.due("3: remove(4, 5)", rope.remove(4, 5), 4);
        Check.holds("3: end", rope, 1, 4, 5, 6);
        for (int[] s : NOT_THERE_IN_FOUR) {
            Check.due("3: remove(" + s[0] + ", " + s[1] + ")", rope.remove(s[0], s[1]), -1);
        }
        Check.due("3: remove(0, 0)", rope.remove(0, 0), 4);
        Check.due("3: remove(4, 4)", rope.remove(4, 4), 4);
        Check.holds("3: nothing taken", rope, 1, 4, 5, 6);
        Check.due("3: remove(0, 4)", rope.remove(0, 4), 0);
        Check.due("3: remove(0, 0) of none", rope.remove(0, 0), 0);
        Check.holds("3: all taken", rope);

        ReversibleRope full = Check.rope(Check.upwards(0, 40));
        Check.due("3: remove(0, 1) of 40", full.remove(0, 1), 39);
        Check.holds("3: of 40", full, Check.upwards(1, 39));
    }

    // Promise 4
    private static void length() {
        ReversibleRope rope = new ReversibleRope();
        for (int n = 1; n <= 40; n++) {
            rope.insert(0, n);
            Check.due("4: length()", rope.length(), n);
        }
        rope.insert(0, 0);
        Check.due("4: after FULL", rope.length(), 40);
        rope.remove(10, 25);
        Check.due("4: after remove", rope.length(), 25);
        rope.twice(0, 3);
        Check.due("4: after twice", rope.length(), 28);
        rope.reverse(0, 28);
        rope.move(0, 3, 5);
        rope.add(0, 28, 1);
        Check.due("4: after what keeps it", rope.length(), 28);
    }

    // Promise 5
    private static void get() {
        ReversibleRope rope = Check.rope(7, -8, 9);
        Check.due("5: get(0)", rope.get(0), 7);
        Check.due("5: get(1)", rope.get(1), -8);
        Check.due("5: get(2)", rope.get(2), 9);
        int[] wrongPlaces = {-1, 3, 39, 40, 41, MIN, MAX};
        for (int place : wrongPlaces) {
            Check.due("5: get(" + place + ")", rope.get(place), 0);
        }
        rope.remove(1, 3);
        Check.due("5: get(1) of what was removed", rope.get(1), 0);
        ReversibleRope full = Check.rope(Check.upwards(1, 40));
        Check.due("5: get(39)", full.get(39), 40);
        Check.due("5: get(40)", full.get(40), 0);
    }

    // Promise 6
    private static void reverse() {
        ReversibleRope rope = Check.rope(1, 2, 3, 4);
        Check.due("6: reverse(0, 3)", rope.reverse(0, 3), true);
        Check.holds("6: odd", rope, 3, 2, 1, 4);
        Check.due("6: reverse(0, 4)", rope.reverse(0, 4), true);
        Check.holds("6: all", rope, 4, 1, 2, 3);
        Check.due("6: reverse(2, 4)", rope.reverse(2, 4), true);
        Check.holds("6: end", rope, 4, 1, 3, 2);
        for (int p = 0; p <= 4; p++) {
            Check.due("6: empty at " + p, rope.reverse(p, p), true);
        }
        Check.due("6: one int", rope.reverse(3, 4), true);
        for (int[] s : NOT_THERE_IN_FOUR) {
            Check.due("6: reverse(" + s[0] + ", " + s[1] + ")", rope.reverse(s[0], s[1]), false);
        }
        Check.holds("6: nothing turned", rope, 4, 1, 3, 2);
        Check.due("6: reverse(0, 0) of none", new ReversibleRope().reverse(0, 0), true);
        ReversibleRope full = Check.rope(Check.upwards(1, 40));
        Check.due("6: reverse(0, 40)", full.reverse(0, 40), true);
        Check.due("6: first of 40", full.get(0), 40);
        Check.due("6: last of 40", full.get(39), 1);
    }

    // Promise 7
    private static void add() {
        ReversibleRope rope = Check.rope(1, 2, 3, 4);
        Check.due("7: add(1, 3, 10)", rope.add(1, 3, 10), true);
        Check.holds("7: between", rope, 1, 12, 13, 4);
        Check.due("7: add(0, 4, -5)", rope.add(0, 4, -5), true);
        Check.holds("7: all", rope, -4, 7, 8, -1);
        Check.due("7: add(0, 4, 0)", rope.add(0, 4, 0), true);
        Check.due("7: nothing to add to", rope.add(2, 2, MAX), true);
        Check.due("7: nothing to add to at the end", rope.add(4, 4, MIN), true);
        Check.due("7: none at all", new ReversibleRope().add(0, 0, MAX), true);
        Check.holds("7: empty", rope, -4, 7, 8, -1);

        ReversibleRope edge = Check.rope(-TOP, TOP);
        Check.due("7: all the way up", edge.add(0, 1, 2 * TOP), true);
        Check.due("7: all the way down", edge.add(1, 2, -2 * TOP), true);
        Check.holds("7: edges", edge, TOP, -TOP);
    }

    private static void addRefusals() {
        ReversibleRope rope = Check.rope(5, 1, 0, -5);
        for (int[] s : NOT_THERE_IN_FOUR) {
            Check.due("7: add(" + s[0] + ", " + s[1] + ", 1)", rope.add(s[0], s[1], 1), false);
        }
        Check.due("7: the first too high", rope.add(0, 4, TOP - 4), false);
        Check.due("7: the last too low", rope.add(0, 4, -TOP + 4), false);
        int[] tooMuch = {MAX, MIN, MAX - 1, MIN + 1, TOP + 1, -TOP - 1, 2 * TOP, -2 * TOP};
        for (int more : tooMuch) {
            Check.due("7: add(0, 4, " + more + ")", rope.add(0, 4, more), false);
            Check.due("7: add(2, 3, " + more + ")", rope.add(2, 3, more), false);
        }
        Check.holds("7: refused", rope, 5, 1, 0, -5);
        Check.due("7: just fits", rope.add(0, 4, TOP - 5), true);
        Check.due("7: one more", rope.add(0, 4, 1), false);
        Check.holds("7: at the edge", rope, TOP, TOP - 4, TOP - 5, TOP - 10);

        ReversibleRope ends = Check.rope(TOP, -TOP);
        Check.due("7: wraps below", ends.add(0, 1, MAX), false);
        Check.due("7: wraps above", ends.add(1, 2, MIN), false);
        Check.due("7: one above", ends.add(0, 1, 1), false);
        Check.due("7: one below", ends.add(1, 2, -1), false);
        Check.holds("7: ends", ends, TOP, -TOP);
    }

    // Promise 8
    private static void move() {
        ReversibleRope rope = Check.rope(0, 1, 2, 3, 4, 5);
        Check.due("8: move(0, 2, 3)", rope.move(0, 2, 3), true);
        Check.holds("8: to the right", rope, 2, 3, 4, 0, 1, 5);
        Check.due("8: move(3, 5, 0)", rope.move(3, 5, 0), true);
        Check.holds("8: to the start", rope, 0, 1, 2, 3, 4, 5);
        Check.due("8: move(1, 3, 4)", rope.move(1, 3, 4), true);
        Check.holds("8: to the end", rope, 0, 3, 4, 5, 1, 2);
        Check.due("8: move(1, 4, 2)", rope.move(1, 4, 2), true);
        Check.holds("8: over itself", rope, 0, 1, 3, 4, 5, 2);
        Check.due("8: move(4, 6, 1)", rope.move(4, 6, 1), true);
        Check.holds("8: to the left", rope, 0, 5, 2, 1, 3, 4);
        Check.due("8: where it is", rope.move(2, 4, 2), true);
        Check.due("8: the whole", rope.move(0, 6, 0), true);
        Check.due("8: empty to the end", rope.move(0, 0, 6), true);
        Check.due("8: empty to the start", rope.move(6, 6, 0), true);
        Check.holds("8: same", rope, 0, 5, 2, 1, 3, 4);
        Check.due("8: none at all", new ReversibleRope().move(0, 0, 0), true);
    }

    private static void moveRefusals() {
        ReversibleRope rope = Check.rope(6, 7, 8, 9);
        for (int[] s : NOT_THERE_IN_FOUR) {
            Check.due("8: move(" + s[0] + ", " + s[1] + ", 0)", rope.move(s[0], s[1], 0), false);
        }
        int[] wrongPlaces = {-1, 3, 4, 5, MIN, MAX};
        for (int k : wrongPlaces) {
            Check.due("8: move(1, 3, " + k + ")", rope.move(1, 3, k), false);
        }
        Check.due("8: the whole to 1", rope.move(0, 4, 1), false);
        Check.due("8: the whole to -1", rope.move(0, 4, -1), false);
        Check.due("8: empty to 5", rope.move(0, 0, 5), false);
        Check.due("8: empty to -1", rope.move(0, 0, -1), false);
        Check.holds("8: refused", rope, 6, 7, 8, 9);
    }

    // Promise 9
    private static void twice() {
        ReversibleRope rope = Check.rope(1, 2, 3, 4);
        Check.due("9: twice(1, 3)", rope.twice(1, 3), 6);
        Check.holds("9: between", rope, 1, 2, 3, 2, 3, 4);
        Check.due("9: twice(0, 1)", rope.twice(0, 1), 7);
        Check.holds("9: start", rope, 1, 1, 2, 3, 2, 3, 4);
        Check.due("9: twice(5, 7)", rope.twice(5, 7), 9);
        Check.holds("9: end", rope, 1, 1, 2, 3, 2, 3, 4, 3, 4);
        Check.due("9: empty", rope.twice(9, 9), 9);
        Check.due("9: whole", rope.twice(0, 9), 18);
        Check.holds("9: whole", rope, 1, 1, 2, 3, 2, 3, 4, 3, 4, 1, 1, 2, 3, 2, 3, 4, 3, 4);
        Check.due("9: none at all", new ReversibleRope().twice(0, 0), 0);

        ReversibleRope four = Check.rope(1, 2, 3, 4);
        for (int[] s : NOT_THERE_IN_FOUR) {
            Check.due("9: twice(" + s[0] + ", " + s[1] + ")", four.twice(s[0], s[1]), -1);
        }
        Check.holds("9: refused", four, 1, 2, 3, 4);

        ReversibleRope rest = Check.rope(Check.upwards(1, 30));
        Check.due("9: 41 would be there", rest.twice(5, 16), -2);
        Check.holds("9: FULL", rest, Check.upwards(1, 30));
        Check.due("9: 40 are there", rest.twice(20, 30), 40);
        Check.due("9: the last", rest.get(39), 30);
        Check.due("9: the first of the copy", rest.get(30), 21);
        Check.due("9: empty of 40", rest.twice(40, 40), 40);
        Check.due("9: one of 40", rest.twice(39, 40), -2);
        Check.due("9: 40 of 40", rest.twice(0, 40), -2);
    }

    // Promise 10
    private static void sum() {
        ReversibleRope rope = Check.rope(1, -20, 300, 4000);
        Check.due("10: sum(0, 4)", rope.sum(0, 4), 4281);
        Check.due("10: sum(1, 3)", rope.sum(1, 3), 280);
        Check.due("10: sum(3, 4)", rope.sum(3, 4), 4000);
        for (int p = 0; p <= 4; p++) {
            Check.due("10: empty at " + p, rope.sum(p, p), 0);
        }
        for (int[] s : NOT_THERE_IN_FOUR) {
            Check.due("10: sum(" + s[0] + ", " + s[1] + ")", rope.sum(s[0], s[1]), 0);
        }
        ReversibleRope full = new ReversibleRope();
        for (int n = 0; n < 40; n++) {
            full.insert(n, TOP);
        }
        Check.due("10: the highest", full.sum(0, 40), 40 * TOP);
        full.add(0, 40, -2 * TOP);
        Check.due("10: the lowest", full.sum(0, 40), -40 * TOP);
        Check.due("10: sum(0, 41)", full.sum(0, 41), 0);
    }

    // Promise 11
    private static void greatest() {
        ReversibleRope rope = Check.rope(-7, -3, -9, -5);
        Check.due("11: greatest(0, 4)", rope.greatest(0, 4), -3);
        Check.due("11: the last", rope.greatest(2, 4), -5);
        Check.due("11: the first", rope.greatest(1, 4), -3);
        Check.due("11: one int", rope.greatest(2, 3), -9);
        for (int p = 0; p <= 4; p++) {
            Check.due("11: empty at " + p, rope.greatest(p, p), 0);
        }
        for (int[] s : NOT_THERE_IN_FOUR) {
            Check.due("11: greatest(" + s[0] + ", " + s[1] + ")", rope.greatest(s[0], s[1]), 0);
        }
        ReversibleRope full = Check.rope(Check.upwards(-TOP, 40));
        Check.due("11: of 40", full.greatest(0, 40), -TOP + 39);
        Check.due("11: empty behind 40", full.greatest(40, 40), 0);
        Check.due("11: the lowest there is", full.greatest(0, 1), -TOP);
    }

    // Promise 12
    private static void smallest() {
        ReversibleRope rope = Check.rope(7, 3, 9, 5);
        Check.due("12: smallest(0, 4)", rope.smallest(0, 4), 3);
        Check.due("12: the last", rope.smallest(2, 4), 5);
        Check.due("12: the first", rope.smallest(1, 4), 3);
        Check.due("12: one int", rope.smallest(2, 3), 9);
        for (int p = 0; p <= 4; p++) {
            Check.due("12: empty at " + p, rope.smallest(p, p), 0);
        }
        for (int[] s : NOT_THERE_IN_FOUR) {
            Check.due("12: smallest(" + s[0] + ", " + s[1] + ")", rope.smallest(s[0], s[1]), 0);
        }
        ReversibleRope full = Check.rope(Check.upwards(TOP - 39, 40));
        full.reverse(0, 40);
        Check.due("12: of 40", full.smallest(0, 40), TOP - 39);
        Check.due("12: empty behind 40", full.smallest(40, 40), 0);
        Check.due("12: the highest there is", full.smallest(0, 1), TOP);
    }

    // Promise 13
    private static void firstAtLeast() {
        ReversibleRope rope = Check.rope(3, 8, 8, -2);
        Check.due("13: the first of equals", rope.firstAtLeast(0, 8), 1);
        Check.due("13: just below", rope.firstAtLeast(0, 4), 1);
        Check.due("13: at i itself", rope.firstAtLeast(2, 8), 2);
        Check.due("13: the last place", rope.firstAtLeast(3, -2), 3);
        Check.due("13: none behind i", rope.firstAtLeast(3, -1), -3);
        Check.due("13: none at all", rope.firstAtLeast(0, 9), -3);
        Check.due("13: i = -1", rope.firstAtLeast(-1, 3), 0);
        Check.due("13: i = MIN", rope.firstAtLeast(MIN, 8), 1);
        Check.due("13: i = the number of ints", rope.firstAtLeast(4, MIN), -3);
        Check.due("13: i = MAX", rope.firstAtLeast(MAX, MIN), -3);
        Check.due("13: value = MIN", rope.firstAtLeast(2, MIN), 2);
        Check.due("13: value = MAX", rope.firstAtLeast(0, MAX), -3);
        ReversibleRope full = Check.rope(Check.upwards(1, 40));
        Check.due("13: the 40th", full.firstAtLeast(0, 40), 39);
        Check.due("13: behind the 40th", full.firstAtLeast(40, 0), -3);
        full.remove(10, 40);
        Check.due("13: what was removed", full.firstAtLeast(0, 11), -3);
    }

    // Promise 14
    private static void clear() {
        ReversibleRope rope = Check.rope(1, 2, 3);
        Check.due("14: clear()", rope.clear(), 3);
        Check.holds("14", rope);
        Check.due("14: get(0)", rope.get(0), 0);
        Check.due("14: firstAtLeast(0, 0)", rope.firstAtLeast(0, 0), -3);
        Check.due("14: again", rope.clear(), 0);
        Check.due("14: insert(1, 4)", rope.insert(1, 4), -1);
        Check.due("14: insert(0, 4)", rope.insert(0, 4), 1);
        Check.holds("14: used again", rope, 4);
        ReversibleRope full = Check.rope(Check.upwards(1, 40));
        Check.due("14: of 40", full.clear(), 40);
        Check.due("14: no longer full", full.insert(0, 9), 1);
    }

    // Promise 15
    private static void orderAndLimits() {
        ReversibleRope full = Check.rope(Check.upwards(1, 40));
        Check.due("15: twice(0, 41)", full.twice(0, 41), -1);
        Check.due("15: twice(-1, 40)", full.twice(-1, 40), -1);
        Check.due("15: twice(5, 4)", full.twice(5, 4), -1);
        Check.due("15: twice(MIN, MAX)", full.twice(MIN, MAX), -1);
        Check.due("15: twice(0, MAX)", full.twice(0, MAX), -1);
        Check.due("15: twice(0, 1)", full.twice(0, 1), -2);
        Check.holds("15: refused", full, Check.upwards(1, 40));
        ReversibleRope most = Check.rope(Check.upwards(1, 30));
        Check.due("15: twice(0, 31)", most.twice(0, 31), -1);
        Check.due("15: twice(0, 30)", most.twice(0, 30), -2);
    }

    private static void objectsStandAlone() {
        ReversibleRope one = Check.rope(1, 2);
        ReversibleRope other = Check.rope(3);
        one.add(0, 2, 10);
        other.clear();
        Check.holds("two objects: one", one, 11, 12);
        Check.holds("two objects: other", other);
    }
}
