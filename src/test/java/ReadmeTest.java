/** The example of README.md, line by line, so that what it tells a reader stays true. */
public final class ReadmeTest {
    public static void main(String[] args) {
        ReversibleRope rope = new ReversibleRope();
        pieces(rope);
        questions(rope);
        cuts(rope);
        Check.end();
    }

    private static void pieces(ReversibleRope rope) {
        Check.due("insert(0, 10)", rope.insert(0, 10), 1);
        Check.holds("insert(0, 10)", rope, 10);
        Check.due("insert(1, 20)", rope.insert(1, 20), 2);
        Check.holds("insert(1, 20)", rope, 10, 20);
        Check.due("insert(2, 30)", rope.insert(2, 30), 3);
        Check.holds("insert(2, 30)", rope, 10, 20, 30);
        Check.due("reverse(0, 3)", rope.reverse(0, 3), true);
        Check.holds("reverse(0, 3)", rope, 30, 20, 10);
        Check.due("move(0, 1, 2)", rope.move(0, 1, 2), true);
        Check.holds("move(0, 1, 2)", rope, 20, 10, 30);
        Check.due("twice(0, 2)", rope.twice(0, 2), 5);
        Check.holds("twice(0, 2)", rope, 20, 10, 20, 10, 30);
        Check.due("add(1, 3, 5)", rope.add(1, 3, 5), true);
        Check.holds("add(1, 3, 5)", rope, 20, 15, 25, 10, 30);
    }

    private static void questions(ReversibleRope rope) {
        Check.due("get(1)", rope.get(1), 15);
        Check.due("sum(0, 5)", rope.sum(0, 5), 100);
        Check.due("greatest(0, 3)", rope.greatest(0, 3), 25);
        Check.due("smallest(0, 3)", rope.smallest(0, 3), 15);
        Check.due("firstAtLeast(1, 25)", rope.firstAtLeast(1, 25), 2);
        Check.due("firstAtLeast(1, 31)", rope.firstAtLeast(1, 31), ReversibleRope.NONE);
    }

    private static void cuts(ReversibleRope rope) {
        Check.due("remove(4, 9)", rope.remove(4, 9), ReversibleRope.BAD);
        Check.holds("remove(4, 9)", rope, 20, 15, 25, 10, 30);
        Check.due("remove(1, 4)", rope.remove(1, 4), 2);
        Check.holds("remove(1, 4)", rope, 20, 30);
        Check.due("length()", rope.length(), 2);
        Check.due("clear()", rope.clear(), 2);
        Check.holds("clear()", rope);
    }
}
