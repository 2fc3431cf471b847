/** A list of up to 40 small numbers, and twelve engines that each find its sorted order. */
public final class SortSuite {
    public static final int BAD = -1000;
    public static final int FULL = -2000;

    private static final int CAPACITY = 40;
    private static final int LEAST_NUMBER = -99;
    private static final int GREATEST_NUMBER = 99;
    private static final int GREATEST_STEP = 99;
    private static final int NUMBER_KINDS = GREATEST_NUMBER - LEAST_NUMBER + 1;
    // One more than there are kinds: each count is kept one step behind its own key.
    private static final int START_COUNT = NUMBER_KINDS + 1;
    private static final int KEY_BITS = 8;
    private static final int NONE = -1;

    private static final int INSERTION = 0;
    private static final int SELECTION = 1;
    private static final int BUBBLE = 2;
    private static final int MERGE = 3;
    private static final int HEAP = 4;
    private static final int QUICK = 5;
    private static final int SHELL = 6;
    private static final int COUNTING = 7;
    private static final int RADIX = 8;
    private static final int RANK = 9;
    private static final int TREE = 10;
    private static final int ODD_EVEN = 11;

    private final int[] numbers = new int[CAPACITY];
    private int count;

    private final int[] firstOrder = new int[CAPACITY];
    private final int[] secondOrder = new int[CAPACITY];
    private final int[] spare = new int[CAPACITY];

    private final int[] rangeLow = new int[CAPACITY];
    private final int[] rangeHigh = new int[CAPACITY];
    private final int[] starts = new int[START_COUNT];
    private final int[] earlierChild = new int[CAPACITY];
    private final int[] laterChild = new int[CAPACITY];
    private final int[] pending = new int[CAPACITY];

    private final boolean[] seen = new boolean[CAPACITY];
    private final int[] lengths = new int[CAPACITY];

    public SortSuite() {
        count = 0;
    }

    public int append(int v, int step, int n) {
        if (n < 1 || n > CAPACITY || !isNumber(v) || step < -GREATEST_STEP || step > GREATEST_STEP) {
            return BAD;
        }
        // Only the last one needs a look: those between lie between it and v.
        if (!isNumber(v + (n - 1) * step)) {
            return BAD;
        }
        if (n > CAPACITY - count) {
            return FULL;
        }
        for (int k = 0; k < n; k++) {
            numbers[count + k] = v + k * step;
        }
        count += n;
        return count;
    }

    public int repeat(int n, boolean turned) {
        if (n < 0 || n > count) {
            return BAD;
        }
        if (n > CAPACITY - count) {
            return FULL;
        }
        for (int k = 0; k < n; k++) {
            numbers[count + k] = turned ? -numbers[k] : numbers[k];
        }
        count += n;
        return count;
    }

    public int change(int i, int v) {
        if (!isPlace(i) || !isNumber(v)) {
            return BAD;
        }
        int old = numbers[i];
        numbers[i] = v;
        return old;
    }

    public boolean turn(int i, int j) {
        if (!isPlace(i) || !isPlace(j) || i > j) {
            return false;
        }
        int half = (j - i + 1) / 2;
        for (int k = 0; k < half; k++) {
            swap(numbers, i + k, j - k);
        }
        return true;
    }

    public int remove(int i) {
        if (!isPlace(i)) {
            return BAD;
        }
        int taken = numbers[i];
        for (int k = i + 1; k < count; k++) {
            numbers[k - 1] = numbers[k];
        }
        count--;
        return taken;
    }

    public int at(int i) {
        return isPlace(i) ? numbers[i] : BAD;
    }

    public int size() {
        return count;
    }

    public int sorted(int engine, int k) {
        if (!isPlace(k) || !isEngine(engine)) {
            return BAD;
        }
        findOrder(engine, firstOrder);
        return numbers[firstOrder[k]];
    }

    public int place(int engine, int k) {
        if (!isPlace(k) || !isEngine(engine)) {
            return BAD;
        }
        findOrder(engine, firstOrder);
        return firstOrder[k];
    }

    public boolean agree(int engine, int other) {
        if (!isEngine(engine) || !isEngine(other)) {
            return false;
        }
        findOrder(engine, firstOrder);
        findOrder(other, secondOrder);
        for (int k = 0; k < count; k++) {
            if (firstOrder[k] != secondOrder[k]) {
                return false;
            }
        }
        return true;
    }

    public int sort(int engine) {
        if (!isEngine(engine)) {
            return BAD;
        }
        findOrder(engine, firstOrder);
        int moved = 0;
        for (int k = 0; k < count; k++) {
            spare[k] = numbers[firstOrder[k]];
            if (firstOrder[k] != k) {
                moved++;
            }
        }
        copyRange(spare, numbers, 0, count);
        return moved;
    }

    public int select(int k) {
        if (!isPlace(k)) {
            return BAD;
        }
        // Ranks are all different and fill 0 .. count - 1, so one of them is k.
        for (int place = 0; place < count; place++) {
            if (rankOf(place) == k) {
                return numbers[place];
            }
        }
        return BAD;
    }

    public int inversions() {
        int pairs = 0;
        for (int i = 0; i < count; i++) {
            for (int j = i + 1; j < count; j++) {
                if (numbers[i] > numbers[j]) {
                    pairs++;
                }
            }
        }
        return pairs;
    }

    public int exchanges() {
        findOrder(MERGE, firstOrder);
        for (int place = 0; place < count; place++) {
            seen[place] = false;
        }
        // An exchange splits one cycle of the order at best, and in the end each place is its own.
        int cycles = 0;
        for (int place = 0; place < count; place++) {
            if (!seen[place]) {
                cycles++;
                markCycle(firstOrder, place);
            }
        }
        return count - cycles;
    }

    public int growing() {
        int longest = 0;
        for (int last = 0; last < count; last++) {
            lengths[last] = 1;
            for (int k = 0; k < last; k++) {
                if (numbers[k] < numbers[last] && lengths[k] >= lengths[last]) {
                    lengths[last] = lengths[k] + 1;
                }
            }
            if (lengths[last] > longest) {
                longest = lengths[last];
            }
        }
        return longest;
    }

    public int find(int v) {
        int less = 0;
        for (int place = 0; place < count; place++) {
            if (numbers[place] < v) {
                less++;
            }
        }
        return less;
    }

    private boolean isNumber(int v) {
        return v >= LEAST_NUMBER && v <= GREATEST_NUMBER;
    }

    private boolean isPlace(int i) {
        return i >= 0 && i < count;
    }

    private boolean isEngine(int engine) {
        return engine >= INSERTION && engine <= ODD_EVEN;
    }

    // No two places tie, so that engines which do not keep equal numbers in order come out right too.
    private boolean isBefore(int place, int other) {
        if (numbers[place] != numbers[other]) {
            return numbers[place] < numbers[other];
        }
        return place < other;
    }

    private int rankOf(int place) {
        int rank = 0;
        for (int other = 0; other < count; other++) {
            if (isBefore(other, place)) {
                rank++;
            }
        }
        return rank;
    }

    private int keyOf(int place) {
        return numbers[place] - LEAST_NUMBER;
    }

    private void swap(int[] array, int i, int j) {
        int kept = array[i];
        array[i] = array[j];
        array[j] = kept;
    }

    private void copyRange(int[] from, int[] to, int start, int end) {
        for (int k = start; k < end; k++) {
            to[k] = from[k];
        }
    }

    private void markCycle(int[] order, int start) {
        int place = start;
        for (int step = 0; step < count && !seen[place]; step++) {
            seen[place] = true;
            place = order[place];
        }
    }

    private void findOrder(int engine, int[] order) {
        for (int place = 0; place < count; place++) {
            order[place] = place;
        }
        switch (engine) {
            case INSERTION: orderByInsertion(order); break;
            case SELECTION: orderBySelection(order); break;
            case BUBBLE: orderByBubbles(order); break;
            case MERGE: orderByMerging(order); break;
            case HEAP: orderByHeap(order); break;
            case QUICK: orderByPartition(order); break;
            case SHELL: orderByGaps(order); break;
            case COUNTING: orderByCounting(order); break;
            case RADIX: orderByBits(order); break;
            case RANK: orderByRank(order); break;
            case TREE: orderByTree(order); break;
            case ODD_EVEN: orderByOddEven(order); break;
            default: break;
        }
    }

    private void orderByInsertion(int[] order) {
        for (int k = 1; k < count; k++) {
            moveForward(order, k, 1);
        }
    }

    private void moveForward(int[] order, int start, int gap) {
        int k = start;
        for (int move = 0; move < count && k >= gap && isBefore(order[k], order[k - gap]); move++) {
            swap(order, k, k - gap);
            k -= gap;
        }
    }

    private void orderBySelection(int[] order) {
        for (int k = 0; k < count; k++) {
            int first = k;
            for (int j = k + 1; j < count; j++) {
                if (isBefore(order[j], order[first])) {
                    first = j;
                }
            }
            swap(order, k, first);
        }
    }

    private void orderByBubbles(int[] order) {
        for (int last = count - 1; last > 0; last--) {
            for (int k = 0; k < last; k++) {
                orderPair(order, k);
            }
        }
    }

    private void orderPair(int[] order, int k) {
        if (isBefore(order[k + 1], order[k])) {
            swap(order, k, k + 1);
        }
    }

    private void orderByMerging(int[] order) {
        for (int width = 1; width < count; width = 2 * width) {
            for (int low = 0; low < count; low += 2 * width) {
                mergeRuns(order, low, width);
            }
        }
    }

    private void mergeRuns(int[] order, int low, int width) {
        int middle = low + width < count ? low + width : count;
        int high = middle + width < count ? middle + width : count;
        int left = low;
        int right = middle;
        for (int k = low; k < high; k++) {
            if (right >= high || (left < middle && isBefore(order[left], order[right]))) {
                spare[k] = order[left];
                left++;
            } else {
                spare[k] = order[right];
                right++;
            }
        }
        copyRange(spare, order, low, high);
    }

    private void orderByHeap(int[] order) {
        for (int root = count / 2 - 1; root >= 0; root--) {
            siftDown(order, root, count);
        }
        for (int end = count - 1; end > 0; end--) {
            swap(order, 0, end);
            siftDown(order, 0, end);
        }
    }

    private void siftDown(int[] order, int root, int end) {
        int parent = root;
        for (int level = 0; level < end; level++) {
            int latest = parent;
            int left = 2 * parent + 1;
            int right = left + 1;
            if (left < end && isBefore(order[latest], order[left])) {
                latest = left;
            }
            if (right < end && isBefore(order[latest], order[right])) {
                latest = right;
            }
            if (latest == parent) {
                return;
            }
            swap(order, parent, latest);
            parent = latest;
        }
    }

    private void orderByPartition(int[] order) {
        int ranges = addRange(0, 0, count - 1);
        // Each round brings one place home for good, so there are never more rounds than places.
        for (int round = 0; round < count && ranges > 0; round++) {
            ranges--;
            int low = rangeLow[ranges];
            int high = rangeHigh[ranges];
            int border = partition(order, low, high);
            ranges = addRange(ranges, low, border - 1);
            ranges = addRange(ranges, border + 1, high);
        }
    }

    // Waiting ranges are apart and hold two places or more, so at most half of the array is used.
    private int addRange(int ranges, int low, int high) {
        if (low >= high) {
            return ranges;
        }
        rangeLow[ranges] = low;
        rangeHigh[ranges] = high;
        return ranges + 1;
    }

    private int partition(int[] order, int low, int high) {
        // The middle one divides well a list that is sorted already, or turned around.
        swap(order, low + (high - low) / 2, high);
        int border = low;
        for (int k = low; k < high; k++) {
            if (isBefore(order[k], order[high])) {
                swap(order, border, k);
                border++;
            }
        }
        swap(order, border, high);
        return border;
    }

    private void orderByGaps(int[] order) {
        for (int gap = count / 2; gap > 0; gap = gap / 2) {
            for (int k = gap; k < count; k++) {
                moveForward(order, k, gap);
            }
        }
    }

    private void orderByCounting(int[] order) {
        for (int key = 0; key < START_COUNT; key++) {
            starts[key] = 0;
        }
        for (int place = 0; place < count; place++) {
            int key = keyOf(place);
            starts[key + 1]++;
        }
        for (int key = 1; key < START_COUNT; key++) {
            starts[key] += starts[key - 1];
        }
        for (int place = 0; place < count; place++) {
            int key = keyOf(place);
            order[starts[key]] = place;
            starts[key]++;
        }
    }

    private void orderByBits(int[] order) {
        for (int bit = 0; bit < KEY_BITS; bit++) {
            int filled = collectBit(order, bit, 0, 0);
            collectBit(order, bit, 1, filled);
            copyRange(spare, order, 0, count);
        }
    }

    private int collectBit(int[] order, int bit, int wanted, int start) {
        int end = start;
        for (int k = 0; k < count; k++) {
            int key = keyOf(order[k]);
            if (((key >> bit) & 1) == wanted) {
                spare[end] = order[k];
                end++;
            }
        }
        return end;
    }

    private void orderByRank(int[] order) {
        for (int place = 0; place < count; place++) {
            int rank = rankOf(place);
            order[rank] = place;
        }
    }

    private void orderByTree(int[] order) {
        for (int place = 0; place < count; place++) {
            earlierChild[place] = NONE;
            laterChild[place] = NONE;
        }
        for (int place = 1; place < count; place++) {
            hangInTree(place);
        }
        walkTree(order);
    }

    // Place 0 is the root.
    private void hangInTree(int place) {
        int node = 0;
        for (int depth = 0; depth < count; depth++) {
            boolean earlier = isBefore(place, node);
            int next = earlier ? earlierChild[node] : laterChild[node];
            if (next == NONE && earlier) {
                earlierChild[node] = place;
                return;
            }
            if (next == NONE) {
                laterChild[node] = place;
                return;
            }
            node = next;
        }
    }

    private void walkTree(int[] order) {
        int node = 0;
        int waiting = 0;
        int done = 0;
        // Each place is put on the pile once and taken from it once.
        for (int step = 0; step < 2 * count; step++) {
            if (node != NONE) {
                pending[waiting] = node;
                waiting++;
                node = earlierChild[node];
            } else {
                waiting--;
                order[done] = pending[waiting];
                node = laterChild[order[done]];
                done++;
            }
        }
    }

    private void orderByOddEven(int[] order) {
        for (int round = 0; round < count; round++) {
            for (int k = round % 2; k < count - 1; k += 2) {
                orderPair(order, k);
            }
        }
    }
}
