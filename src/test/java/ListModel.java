import java.util.ArrayList;
import java.util.Collections;
import java.util.List;

/** The document's words over a plain list, written apart from the class so that both can be compared. */
final class ListModel {
    final List<Integer> ints = new ArrayList<>();

    private boolean there(int i, int j) {
        return 0 <= i && i <= j && j <= ints.size();
    }

    private static boolean fits(long value) {
        return -1000000L <= value && value <= 1000000L;
    }

    /** The answer to call number `which`; a boolean counts 1 or 0. */
    long answer(int which, int a, int b, int c) {
        switch (which) {
            case 0: return insert(a, b);
            case 1: return remove(a, b);
            case 2: return ints.size();
            case 3: return 0 <= a && a < ints.size() ? ints.get(a) : 0;
            case 4: return reverse(a, b);
            case 5: return add(a, b, c);
            case 6: return move(a, b, c);
            case 7: return twice(a, b);
            case 8: return there(a, b) ? ints.subList(a, b).stream().mapToLong(x -> x).sum() : 0;
            case 9: return there(a, b) && a < b ? Collections.max(ints.subList(a, b)) : 0;
            case 10: return there(a, b) && a < b ? Collections.min(ints.subList(a, b)) : 0;
            case 11: return firstAtLeast(a, b);
            default: return clear();
        }
    }

    private long insert(int place, int value) {
        if (ints.size() == 40) {
            return -2;
        }
        if (place < 0 || place > ints.size() || !fits(value)) {
            return -1;
        }
        ints.add(place, value);
        return ints.size();
    }

    private long remove(int i, int j) {
        if (!there(i, j)) {
            return -1;
        }
        ints.subList(i, j).clear();
        return ints.size();
    }

    private long reverse(int i, int j) {
        if (!there(i, j)) {
            return 0;
        }
        Collections.reverse(ints.subList(i, j));
        return 1;
    }

    private long add(int i, int j, int more) {
        if (!there(i, j) || !ints.subList(i, j).stream().allMatch(x -> fits((long) x + more))) {
            return 0;
        }
        ints.subList(i, j).replaceAll(x -> x + more);
        return 1;
    }

    private long move(int i, int j, int k) {
        if (!there(i, j)) {
            return 0;
        }
        List<Integer> outside = new ArrayList<>(ints);
        outside.subList(i, j).clear();
        if (k < 0 || k > outside.size()) {
            return 0;
        }
        List<Integer> stretch = new ArrayList<>(ints.subList(i, j));
        outside.addAll(k, stretch);
        ints.clear();
        ints.addAll(outside);
        return 1;
    }

    private long twice(int i, int j) {
        if (!there(i, j)) {
            return -1;
        }
        List<Integer> stretch = new ArrayList<>(ints.subList(i, j));
        if (ints.size() + stretch.size() > 40) {
            return -2;
        }
        ints.addAll(j, stretch);
        return ints.size();
    }

    private long firstAtLeast(int i, int value) {
        for (int place = 0; place < ints.size(); place++) {
            if (place >= i && ints.get(place) >= value) {
                return place;
            }
        }
        return -3;
    }

    private long clear() {
        long had = ints.size();
        ints.clear();
        return had;
    }
}
