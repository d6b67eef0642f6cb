/** A sequence of up to 40 ints that is cut, turned round, moved and added to in stretches. */
public final class ReversibleRope {
    public static final int BAD = -1;
    public static final int FULL = -2;
    public static final int NONE = -3;

    private static final int CAPACITY = 40;
    private static final int LOWEST = -1000000;
    private static final int HIGHEST = 1000000;

    private final int[] values = new int[CAPACITY];
    private int count;

    public ReversibleRope() {
        count = 0;
    }

    public int insert(int place, int value) {
        if (count >= CAPACITY) {
            return FULL;
        }
        if (place < 0 || place > count || !isAllowed(value)) {
            return BAD;
        }
        // Downwards, so that no int is written over before it has been copied.
        for (int p = count; p > place; p--) {
            values[p] = values[p - 1];
        }
        values[place] = value;
        count = count + 1;
        return count;
    }

    public int remove(int i, int j) {
        if (!isThere(i, j)) {
            return BAD;
        }
        int size = j - i;
        for (int p = j; p < count; p++) {
            values[p - size] = values[p];
        }
        count = count - size;
        return count;
    }

    public int length() {
        return count;
    }

    public int get(int place) {
        if (place < 0 || place >= count) {
            return 0;
        }
        return values[place];
    }

    public boolean reverse(int i, int j) {
        if (!isThere(i, j)) {
            return false;
        }
        turn(i, j);
        return true;
    }

    public boolean add(int i, int j, int more) {
        if (!isThere(i, j) || !canTake(i, j, more)) {
            return false;
        }
        for (int p = i; p < j; p++) {
            values[p] = values[p] + more;
        }
        return true;
    }

    public boolean move(int i, int j, int k) {
        if (!isThere(i, j)) {
            return false;
        }
        int size = j - i;
        if (k < 0 || k > count - size) {
            return false;
        }
        // A stretch that moves changes sides with the ints between its old and its new place.
        if (k < i) {
            swapNeighbours(k, i, j);
        } else {
            swapNeighbours(i, j, k + size);
        }
        return true;
    }

    public int twice(int i, int j) {
        if (!isThere(i, j)) {
            return BAD;
        }
        int size = j - i;
        if (count + size > CAPACITY) {
            return FULL;
        }
        // Shifting from i, not from j, leaves the stretch itself behind: that is the copy.
        for (int p = count - 1; p >= i; p--) {
            values[p + size] = values[p];
        }
        count = count + size;
        return count;
    }

    public int sum(int i, int j) {
        if (!isThere(i, j)) {
            return 0;
        }
        // 40 ints of at most 1000000 each stay far inside an int.
        int total = 0;
        for (int p = i; p < j; p++) {
            total = total + values[p];
        }
        return total;
    }

    public int greatest(int i, int j) {
        if (!isThere(i, j) || i == j) {
            return 0;
        }
        int best = values[i];
        for (int p = i + 1; p < j; p++) {
            if (values[p] > best) {
                best = values[p];
            }
        }
        return best;
    }

    public int smallest(int i, int j) {
        if (!isThere(i, j) || i == j) {
            return 0;
        }
        int best = values[i];
        for (int p = i + 1; p < j; p++) {
            if (values[p] < best) {
                best = values[p];
            }
        }
        return best;
    }

    public int firstAtLeast(int i, int value) {
        int start = i < 0 ? 0 : i;
        for (int p = start; p < count; p++) {
            if (values[p] >= value) {
                return p;
            }
        }
        return NONE;
    }

    public int clear() {
        int had = count;
        count = 0;
        return had;
    }

    private boolean isThere(int i, int j) {
        return 0 <= i && i <= j && j <= count;
    }

    // A long, so that a sum beyond the ints is judged exactly and does not wrap round.
    private boolean isAllowed(long value) {
        return value >= LOWEST && value <= HIGHEST;
    }

    private boolean canTake(int i, int j, int more) {
        for (int p = i; p < j; p++) {
            long changed = (long) values[p] + more;
            if (!isAllowed(changed)) {
                return false;
            }
        }
        return true;
    }

    private void turn(int from, int to) {
        int half = (to - from) / 2;
        for (int step = 0; step < half; step++) {
            int left = from + step;
            int right = to - 1 - step;
            int kept = values[left];
            values[left] = values[right];
            values[right] = kept;
        }
    }

    // Turning both parts and then the whole swaps the parts with no second array.
    private void swapNeighbours(int from, int middle, int to) {
        turn(from, middle);
        turn(middle, to);
        turn(from, to);
    }
}
