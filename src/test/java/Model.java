import java.util.ArrayList;
import java.util.Collections;
import java.util.Comparator;
import java.util.List;

/** The document's promises over the Java library, in other ways than the program's where there are some. */
final class Model {
    private final List<Integer> list = new ArrayList<>();

    /** The sorted order; the library's sort of objects keeps equal ones in their own order. */
    static int[] order(int[] numbers) {
        List<Integer> places = new ArrayList<>();
        for (int place = 0; place < numbers.length; place++) {
            places.add(place);
        }
        places.sort(Comparator.comparingInt(place -> numbers[place]));
        return places.stream().mapToInt(Integer::intValue).toArray();
    }

    int[] numbers() {
        return list.stream().mapToInt(Integer::intValue).toArray();
    }

    int append(int v, int step, int n) {
        if (n < 1 || n > 40) {
            return SortSuite.BAD;
        }
        long last = v + (n - 1L) * step;
        if (outside(v) || outside(last) || outside(step)) {
            return SortSuite.BAD;
        }
        List<Integer> more = new ArrayList<>();
        for (int k = 0; k < n; k++) {
            more.add(v + k * step);
        }
        return addAll(more);
    }

    int repeat(int n, boolean turned) {
        if (n < 0 || n > list.size()) {
            return SortSuite.BAD;
        }
        List<Integer> more = new ArrayList<>(list.subList(0, n));
        if (turned) {
            more.replaceAll(number -> -1 * number);
        }
        return addAll(more);
    }

    private int addAll(List<Integer> more) {
        if (list.size() + more.size() > 40) {
            return SortSuite.FULL;
        }
        list.addAll(more);
        return list.size();
    }

    int change(int i, int v) {
        return missing(i) || outside(v) ? SortSuite.BAD : list.set(i, v);
    }

    boolean turn(int i, int j) {
        if (i > j || missing(i) || missing(j)) {
            return false;
        }
        Collections.reverse(list.subList(i, j + 1));
        return true;
    }

    int remove(int i) {
        return missing(i) ? SortSuite.BAD : list.remove(i);
    }

    int at(int i) {
        return missing(i) ? SortSuite.BAD : list.get(i);
    }

    int size() {
        return list.size();
    }

    int sorted(int engine, int k) {
        int place = place(engine, k);
        return place == SortSuite.BAD ? SortSuite.BAD : list.get(place);
    }

    int place(int engine, int k) {
        return noEngine(engine) || missing(k) ? SortSuite.BAD : order(numbers())[k];
    }

    boolean agree(int engine, int other) {
        return !noEngine(engine) && !noEngine(other);
    }

    int sort(int engine) {
        if (noEngine(engine)) {
            return SortSuite.BAD;
        }
        int[] order = order(numbers());
        int moved = 0;
        for (int k = 0; k < order.length; k++) {
            moved += order[k] == k ? 0 : 1;
        }
        Collections.sort(list);
        return moved;
    }

    int select(int k) {
        return sorted(0, k);
    }

    /** The sum of how far the places of the order lie behind those that are not yet taken. */
    int inversions() {
        List<Integer> left = new ArrayList<>();
        for (int place = 0; place < list.size(); place++) {
            left.add(place);
        }
        int pairs = 0;
        for (int place : order(numbers())) {
            int index = left.indexOf(place);
            pairs += index;
            left.remove(index);
        }
        return pairs;
    }

    /** Each exchange brings one place home, which no run of exchanges can do better. */
    int exchanges() {
        int[] order = order(numbers());
        int done = 0;
        for (int k = 0; k < order.length; k++) {
            while (order[k] != k) {
                int home = order[k];
                order[k] = order[home];
                order[home] = home;
                done++;
            }
        }
        return done;
    }

    /** By the least number with which each length can end. */
    int growing() {
        List<Integer> ends = new ArrayList<>();
        for (int number : list) {
            int at = Collections.binarySearch(ends, number);
            int length = at < 0 ? -at - 1 : at;
            if (length == ends.size()) {
                ends.add(number);
            } else {
                ends.set(length, number);
            }
        }
        return ends.size();
    }

    int find(int v) {
        List<Integer> copy = new ArrayList<>(list);
        Collections.sort(copy);
        int place = 0;
        while (place < copy.size() && copy.get(place) < v) {
            place++;
        }
        return place;
    }

    private boolean missing(int i) {
        return i < 0 || i >= list.size();
    }

    private static boolean outside(long v) {
        return v < -99 || v > 99;
    }

    private static boolean noEngine(int engine) {
        return engine < 0 || engine > 11;
    }
}
