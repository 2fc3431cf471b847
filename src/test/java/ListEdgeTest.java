/** The edges of promises 1 to 8: for each sentence that names one, what is still taken and what no longer. */
public final class ListEdgeTest {
    private static final Checks CHECKS = new Checks();
    private static final int BAD = SortSuite.BAD;
    private static final int FULL = SortSuite.FULL;
    private static final int LEAST = Checks.LEAST;
    private static final int GREATEST = Checks.GREATEST;
    private static final int[] EMPTY = {};
    private static final int[] TWO = {3, -4};
    private static final int[] SIZES = {1, 2, 3, 20, 39, 40};

    public static void main(String[] args) {
        newObject();
        newObjectBesideAnother();
        appendCount();
        appendFirstNumber();
        appendLastNumber();
        appendStep();
        appendFull();
        appendRefusalsInOrder();
        repeatCount();
        repeatNone();
        repeatTurned();
        repeatFirstOnes();
        repeatFull();
        repeatRefusalsInOrder();
        changePlace();
        changeNumber();
        turnPlaces();
        turnOneOrAll();
        turnAgainstTheOrder();
        removePlace();
        removeMovesUp();
        at();
        size();
        CHECKS.end();
    }

    private static void newObject() {
        CHECKS.sentence("1: an empty list");
        SortSuite suite = new SortSuite();
        CHECKS.due("size()", suite.size(), 0);
        CHECKS.due("at(0)", suite.at(0), BAD);
        CHECKS.due("remove(0)", suite.remove(0), BAD);
        CHECKS.due("change(0, 0)", suite.change(0, 0), BAD);
        CHECKS.due("turn(0, 0)", suite.turn(0, 0), false);
        CHECKS.due("repeat(1, false)", suite.repeat(1, false), BAD);
        CHECKS.due("sorted(0, 0)", suite.sorted(0, 0), BAD);
        CHECKS.due("place(0, 0)", suite.place(0, 0), BAD);
        CHECKS.due("select(0)", suite.select(0), BAD);
        CHECKS.due("sort(0)", suite.sort(0), 0);
        CHECKS.due("inversions()", suite.inversions(), 0);
        CHECKS.due("exchanges()", suite.exchanges(), 0);
        CHECKS.due("growing()", suite.growing(), 0);
        CHECKS.due("find(99)", suite.find(99), 0);
        CHECKS.due("size() after these", suite.size(), 0);
    }

    private static void newObjectBesideAnother() {
        CHECKS.sentence("1: an empty list, whatever another object has");
        SortSuite full = Checks.listOf(Checks.mixed(40));
        SortSuite fresh = new SortSuite();
        CHECKS.dueList("of a new object beside a full one", fresh);
        CHECKS.due("append(5, 0, 1)", fresh.append(5, 0, 1), 1);
        CHECKS.dueList("of the new one", fresh, 5);
        CHECKS.dueList("of the full one", full, Checks.mixed(40));
    }

    private static void appendTaken(int v, int step, int n, int[] before) {
        int[] after = Checks.joined(before, Checks.row(v, step, n));
        String call = appendCall(v, step, n);
        CHECKS.dueTaken(call, s -> s.append(v, step, n), after.length, before, after);
    }

    private static void appendRefused(int v, int step, int n, int answer, int[] list) {
        String call = appendCall(v, step, n);
        CHECKS.dueUnchanged(call, s -> s.append(v, step, n), answer, list);
    }

    private static String appendCall(int v, int step, int n) {
        return "append(" + v + ", " + step + ", " + n + ")";
    }

    private static void appendBad(int v, int step, int n) {
        appendRefused(v, step, n, BAD, EMPTY);
        appendRefused(v, step, n, BAD, TWO);
    }

    private static void appendCount() {
        CHECKS.sentence("2: BAD when n is not 1 .. 40");
        appendTaken(5, 1, 1, EMPTY);
        appendTaken(5, 1, 2, EMPTY);
        appendTaken(5, 1, 39, EMPTY);
        appendTaken(5, 1, 40, EMPTY);
        appendTaken(5, 1, 1, TWO);
        // Without a step the last number is in range for any n.
        for (int step = 0; step <= 1; step++) {
            appendBad(5, step, 0);
            appendBad(5, step, -1);
            appendBad(5, step, -40);
            appendBad(5, step, 41);
            appendBad(5, step, 42);
            appendBad(5, step, 257);
            for (int extreme : Checks.EXTREMES) {
                appendBad(5, step, extreme);
            }
        }
        // For n = 0 the reckoned last number, v - step, is in range, too.
        appendBad(99, 99, 0);
    }

    private static void appendFirstNumber() {
        CHECKS.sentence("2: BAD when v is not -99 .. 99");
        appendTaken(99, 0, 1, EMPTY);
        appendTaken(-99, 0, 1, EMPTY);
        appendTaken(99, 0, 38, TWO);
        appendTaken(-99, 0, 38, TWO);
        appendBad(100, 0, 1);
        appendBad(-100, 0, 1);
        for (int extreme : Checks.EXTREMES) {
            appendBad(extreme, 0, 1);
            appendBad(extreme, 0, 40);
        }
        CHECKS.sentence("2: BAD when v is not -99 .. 99, though the last is");
        appendBad(100, -1, 2);
        appendBad(-100, 1, 2);
        appendBad(198, -99, 2);
        appendBad(-198, 99, 2);
        appendBad(256, -99, 3);
    }

    private static void appendLastNumber() {
        CHECKS.sentence("2: BAD when the last of these is not -99 .. 99");
        appendTaken(98, 1, 2, EMPTY);
        appendTaken(-98, -1, 2, EMPTY);
        appendTaken(60, 1, 40, EMPTY);
        appendTaken(-60, -1, 40, EMPTY);
        appendTaken(-99, 99, 3, EMPTY);
        appendTaken(99, -99, 3, EMPTY);
        appendBad(99, 1, 2);
        appendBad(-99, -1, 2);
        appendBad(61, 1, 40);
        appendBad(-61, -1, 40);
        appendBad(-98, 99, 3);
        appendBad(98, -99, 3);
        appendBad(1, 99, 2);
        appendBad(-1, -99, 2);
        appendBad(-99, 99, 40);
        appendBad(99, -99, 40);
        CHECKS.sentence("2: BAD when the last of these is not -99 .. 99, though it is 0 as a byte");
        appendBad(0, 64, 5);
        appendBad(0, -64, 5);
    }

    private static void appendStep() {
        CHECKS.sentence("2: BAD when step is not -99 .. 99");
        appendTaken(0, 99, 1, EMPTY);
        appendTaken(0, -99, 1, EMPTY);
        appendTaken(0, 99, 2, EMPTY);
        appendTaken(0, -99, 2, EMPTY);
        appendTaken(99, 99, 1, EMPTY);
        appendTaken(-99, -99, 1, EMPTY);
        CHECKS.sentence("2: BAD when step is not -99 .. 99, though no step is made");
        appendBad(0, 100, 1);
        appendBad(0, -100, 1);
        for (int extreme : Checks.EXTREMES) {
            appendBad(0, extreme, 1);
        }
        CHECKS.sentence("2: BAD when step is not -99 .. 99, though the last number is");
        appendBad(-50, 100, 2);
        appendBad(50, -100, 2);
        appendBad(-99, 198, 2);
        appendBad(99, -198, 2);
        CHECKS.sentence("2: BAD when step is not -99 .. 99, though the last number wraps around to one that is");
        appendBad(0, LEAST, 3);
        appendBad(0, 1 << 30, 5);
        appendBad(0, 1 << 29, 9);
        appendBad(0, GREATEST, 3);
        appendBad(0, LEAST + 1, 3);
    }

    private static void appendFull() {
        CHECKS.sentence("2: FULL, changing nothing, when there would be more than 40");
        for (int size = 0; size <= 40; size++) {
            int[] list = Checks.mixed(size);
            int room = 40 - size;
            if (room >= 1) {
                appendTaken(-room, 1, room, list);
            }
            if (size >= 1) {
                appendRefused(-room, 1, room + 1, FULL, list);
                appendRefused(0, 0, 40, FULL, list);
            }
        }
        CHECKS.sentence("2: FULL only as long as there is no room");
        SortSuite suite = Checks.listOf(Checks.mixed(40));
        CHECKS.due("append(8, 0, 1) to 40", suite.append(8, 0, 1), FULL);
        CHECKS.due("remove(39)", suite.remove(39), Checks.mixed(40)[39]);
        CHECKS.due("append(8, 0, 2) to 39", suite.append(8, 0, 2), FULL);
        CHECKS.due("append(8, 0, 1) to 39", suite.append(8, 0, 1), 40);
        CHECKS.dueList("at the end", suite, Checks.joined(Checks.mixed(39), 8));
    }

    private static void appendRefusalsInOrder() {
        CHECKS.sentence("2: tested in this order, BAD before FULL");
        for (int size = 39; size <= 40; size++) {
            int[] list = Checks.mixed(size);
            appendRefused(0, 0, 0, BAD, list);
            appendRefused(0, 0, 41, BAD, list);
            appendRefused(0, 0, LEAST, BAD, list);
            appendRefused(0, 0, GREATEST, BAD, list);
            appendRefused(100, 0, 2, BAD, list);
            appendRefused(-100, 0, 2, BAD, list);
            appendRefused(LEAST, 0, 2, BAD, list);
            appendRefused(GREATEST, 0, 2, BAD, list);
            appendRefused(99, 1, 2, BAD, list);
            appendRefused(-99, -1, 2, BAD, list);
            appendRefused(-50, 100, 2, BAD, list);
            appendRefused(50, -100, 2, BAD, list);
            appendRefused(0, LEAST, 3, BAD, list);
            appendRefused(0, GREATEST, 3, BAD, list);
            // Right by a hair in all of these, so it is FULL's turn.
            appendRefused(99, -99, 3, FULL, list);
            appendRefused(-99, 99, 3, FULL, list);
            appendRefused(60, 1, 40, FULL, list);
        }
    }

    private static void repeatTaken(int n, boolean turned, int[] before) {
        int[] more = new int[n];
        for (int i = 0; i < n; i++) {
            more[i] = turned ? -before[i] : before[i];
        }
        int[] after = Checks.joined(before, more);
        CHECKS.dueTaken(repeatCall(n, turned), s -> s.repeat(n, turned), after.length, before, after);
    }

    private static void repeatRefused(int n, int answer, int[] list) {
        CHECKS.dueUnchanged(repeatCall(n, false), s -> s.repeat(n, false), answer, list);
        CHECKS.dueUnchanged(repeatCall(n, true), s -> s.repeat(n, true), answer, list);
    }

    private static String repeatCall(int n, boolean turned) {
        return "repeat(" + n + ", " + turned + ")";
    }

    private static void repeatCount() {
        CHECKS.sentence("3: BAD when n is not from 0 to how many there are");
        for (int size = 0; size <= 20; size++) {
            int[] list = Checks.mixed(size);
            repeatTaken(size, false, list);
            repeatTaken(size, true, list);
            repeatRefused(-1, BAD, list);
            repeatRefused(size + 1, BAD, list);
            for (int extreme : Checks.EXTREMES) {
                repeatRefused(extreme, BAD, list);
            }
        }
        CHECKS.sentence("3: BAD when n is not to how many there are, though there have been more");
        SortSuite suite = Checks.listOf(1, 2, 3);
        CHECKS.due("remove(2)", suite.remove(2), 3);
        CHECKS.due("repeat(3, false)", suite.repeat(3, false), BAD);
        CHECKS.dueList("after this", suite, 1, 2);
    }

    private static void repeatNone() {
        CHECKS.sentence("3: n from 0, on an empty list, on a full one, and between");
        for (int size = 0; size <= 40; size++) {
            repeatTaken(0, false, Checks.mixed(size));
            repeatTaken(0, true, Checks.mixed(size));
        }
    }

    private static void repeatTurned() {
        CHECKS.sentence("3: multiplied with -1 when turned is true");
        int[] list = {-99, 99, 0, -1, 1};
        CHECKS.dueTaken("repeat(5, true)", s -> s.repeat(5, true), 10, list, -99, 99, 0, -1, 1, 99, -99, 0, 1, -1);
        CHECKS.dueTaken("repeat(5, false)", s -> s.repeat(5, false), 10, list, -99, 99, 0, -1, 1, -99, 99, 0, -1, 1);
    }

    private static void repeatFirstOnes() {
        CHECKS.sentence("3: the first n numbers");
        CHECKS.dueTaken("repeat(1, false)", s -> s.repeat(1, false), 4, new int[] {7, 8, 9}, 7, 8, 9, 7);
        CHECKS.dueTaken("repeat(2, false)", s -> s.repeat(2, false), 5, new int[] {7, 8, 9}, 7, 8, 9, 7, 8);
        CHECKS.dueTaken("repeat(2, true)", s -> s.repeat(2, true), 5, new int[] {7, 8, 9}, 7, 8, 9, -7, -8);
    }

    private static void repeatFull() {
        CHECKS.sentence("3: FULL as in append, changing nothing");
        for (int size = 20; size <= 40; size++) {
            int[] list = Checks.mixed(size);
            int room = 40 - size;
            repeatTaken(room, false, list);
            repeatTaken(room, true, list);
            if (room < size) {
                repeatRefused(room + 1, FULL, list);
                repeatRefused(size, FULL, list);
            }
        }
    }

    private static void repeatRefusalsInOrder() {
        CHECKS.sentence("3: FULL as in append, so BAD before it");
        for (int size = 21; size <= 40; size++) {
            int[] list = Checks.mixed(size);
            repeatRefused(size + 1, BAD, list);
            repeatRefused(41, BAD, list);
            repeatRefused(-1, BAD, list);
            repeatRefused(LEAST, BAD, list);
            repeatRefused(GREATEST, BAD, list);
        }
    }

    private static void changeBad(int i, int v, int[] list) {
        CHECKS.dueUnchanged("change(" + i + ", " + v + ")", s -> s.change(i, v), BAD, list);
    }

    private static void changeTaken(int i, int v, int[] before) {
        int[] after = before.clone();
        after[i] = v;
        CHECKS.dueTaken("change(" + i + ", " + v + ")", s -> s.change(i, v), before[i], before, after);
    }

    private static void changePlace() {
        CHECKS.sentence("4: BAD when there is none at place i");
        for (int size : SIZES) {
            int[] list = Checks.mixed(size);
            changeTaken(0, 9, list);
            changeTaken(size - 1, 9, list);
            for (int none : placesNotThere(size)) {
                changeBad(none, 9, list);
            }
        }
        for (int none : placesNotThere(0)) {
            changeBad(none, 9, EMPTY);
        }
        CHECKS.sentence("4: BAD when there is none any more at place i");
        SortSuite suite = Checks.listOf(1, 2);
        CHECKS.due("remove(0)", suite.remove(0), 1);
        CHECKS.due("change(1, 9)", suite.change(1, 9), BAD);
        CHECKS.dueList("after this", suite, 2);
    }

    private static void changeNumber() {
        CHECKS.sentence("4: BAD when v is not -99 .. 99");
        for (int size : SIZES) {
            int[] list = Checks.fewKinds(size);
            changeTaken(size - 1, 99, list);
            changeTaken(size - 1, -99, list);
            changeBad(size - 1, 100, list);
            changeBad(size - 1, -100, list);
            for (int extreme : Checks.EXTREMES) {
                changeBad(size - 1, extreme, list);
                changeBad(size, extreme, list);
            }
        }
        CHECKS.sentence("4: answers the one that was there, at both ends of the numbers");
        changeTaken(0, 99, new int[] {-99});
        changeTaken(0, -99, new int[] {99});
        changeTaken(0, 0, new int[] {0});
    }

    /** The first ones that are not there on either side of the list, and those far off. */
    private static int[] placesNotThere(int size) {
        int[] near = {-1, -2, -40, size, size + 1, 40, 41, 256, LEAST, GREATEST};
        return Checks.joined(near, LEAST + 1, GREATEST - 1, LEAST + size, 1 << 30);
    }

    private static void turnFalse(int i, int j, int[] list) {
        CHECKS.dueUnchanged("turn(" + i + ", " + j + ")", s -> s.turn(i, j) ? 1 : 0, 0, list);
    }

    private static void turnTrue(int i, int j, int[] before) {
        int[] after = before.clone();
        for (int k = i; k <= j; k++) {
            after[k] = before[j - (k - i)];
        }
        CHECKS.dueTaken("turn(" + i + ", " + j + ")", s -> s.turn(i, j) ? 1 : 0, 1, before, after);
    }

    private static void turnPlaces() {
        CHECKS.sentence("5: false when they are not there");
        for (int size : SIZES) {
            int[] list = Checks.mixed(size);
            for (int none : placesNotThere(size)) {
                turnFalse(0, none, list);
                turnFalse(none, 0, list);
                turnFalse(size - 1, none, list);
                turnFalse(none, size - 1, list);
                turnFalse(none, none, list);
            }
            turnFalse(-1, size, list);
            turnFalse(LEAST, GREATEST, list);
            turnFalse(GREATEST, LEAST, list);
        }
        for (int none : placesNotThere(0)) {
            turnFalse(none, none, EMPTY);
        }
        turnFalse(0, 0, EMPTY);
        turnFalse(0, -1, EMPTY);
        CHECKS.sentence("5: false when they are not there any more");
        SortSuite suite = Checks.listOf(1, 2, 3);
        CHECKS.due("remove(1)", suite.remove(1), 2);
        CHECKS.due("turn(0, 2)", suite.turn(0, 2), false);
        CHECKS.dueList("after this", suite, 1, 3);
    }

    private static void turnOneOrAll() {
        CHECKS.sentence("5: from i up to j, i = j and the whole list, too");
        for (int size : SIZES) {
            int[] list = Checks.mixed(size);
            turnTrue(0, 0, list);
            turnTrue(size - 1, size - 1, list);
            turnTrue(0, size - 1, list);
            turnTrue(size / 2, size - 1, list);
            turnTrue(0, size / 2, list);
        }
    }

    private static void turnAgainstTheOrder() {
        CHECKS.sentence("5: i <= j");
        for (int size : new int[] {2, 3, 40}) {
            int[] list = Checks.mixed(size);
            turnTrue(size - 2, size - 1, list);
            turnFalse(size - 1, size - 2, list);
            turnTrue(0, 1, list);
            turnFalse(1, 0, list);
            turnFalse(size - 1, 0, list);
        }
    }

    private static void removeBad(int i, int[] list) {
        CHECKS.dueUnchanged("remove(" + i + ")", s -> s.remove(i), BAD, list);
    }

    private static void removeTaken(int i, int[] before) {
        int[] after = new int[before.length - 1];
        for (int k = 0; k < after.length; k++) {
            after[k] = before[k < i ? k : k + 1];
        }
        CHECKS.dueTaken("remove(" + i + ")", s -> s.remove(i), before[i], before, after);
    }

    private static void removePlace() {
        CHECKS.sentence("6: BAD when there is none at place i");
        for (int size : SIZES) {
            int[] list = Checks.mixed(size);
            removeTaken(0, list);
            removeTaken(size - 1, list);
            for (int none : placesNotThere(size)) {
                removeBad(none, list);
            }
        }
        for (int none : placesNotThere(0)) {
            removeBad(none, EMPTY);
        }
        CHECKS.sentence("6: BAD when the last one has been taken out");
        SortSuite suite = Checks.listOf(-99);
        CHECKS.due("remove(0)", suite.remove(0), -99);
        CHECKS.due("remove(0) of none", suite.remove(0), BAD);
        CHECKS.dueList("after this", suite);
    }

    private static void removeMovesUp() {
        CHECKS.sentence("6: those behind it move up");
        for (int i = 0; i < 40; i++) {
            removeTaken(i, Checks.mixed(40));
        }
        SortSuite suite = Checks.listOf(Checks.row(1, 1, 40));
        for (int number = 1; number <= 40; number++) {
            CHECKS.due("remove(0)", suite.remove(0), number);
            CHECKS.due("at(0) after it", suite.at(0), number < 40 ? number + 1 : BAD);
            CHECKS.due("size() after it", suite.size(), 40 - number);
        }
        CHECKS.due("append(1, 1, 40) to the list emptied", suite.append(1, 1, 40), 40);
        CHECKS.dueList("at the end", suite, Checks.row(1, 1, 40));
    }

    private static void at() {
        CHECKS.sentence("7: BAD when there is none");
        for (int size : SIZES) {
            int[] list = Checks.mixed(size);
            CHECKS.dueUnchanged("at(0)", s -> s.at(0), list[0], list);
            CHECKS.dueUnchanged("at(size - 1)", s -> s.at(size - 1), list[size - 1], list);
            atBad(list);
        }
        atBad(EMPTY);
        CHECKS.sentence("7: the number at place i, at both ends of the numbers");
        CHECKS.dueUnchanged("at(0)", s -> s.at(0), -99, -99, 99);
        CHECKS.dueUnchanged("at(1)", s -> s.at(1), 99, -99, 99);
    }

    private static void atBad(int[] list) {
        for (int none : placesNotThere(list.length)) {
            CHECKS.dueUnchanged("at(" + none + ")", s -> s.at(none), BAD, list);
        }
    }

    private static void size() {
        CHECKS.sentence("8: how many numbers there are, from none to 40");
        for (int size = 0; size <= 40; size++) {
            CHECKS.dueUnchanged("size()", s -> s.size(), size, Checks.mixed(size));
        }
        SortSuite suite = Checks.listOf(Checks.mixed(40));
        for (int left = 39; left >= 0; left--) {
            suite.remove(left / 2);
            CHECKS.due("size() after remove", suite.size(), left);
        }
    }
}
