import java.util.function.ToLongFunction;

/** The edges of promises 9 to 13, for each engine and for the numbers that are none. */
public final class OrderEdgeTest {
    private static final Checks CHECKS = new Checks();
    private static final int BAD = SortSuite.BAD;
    private static final int LEAST = Checks.LEAST;
    private static final int GREATEST = Checks.GREATEST;
    private static final int[] EMPTY = {};
    private static final int[] SIZES = {1, 2, 3, 20, 39, 40};

    /** A call that asks an engine for the k-th of the sorted order. */
    private interface Asking {
        int ask(SortSuite suite, int engine, int k);
    }

    public static void main(String[] args) {
        sortedPlace();
        sortedEngine();
        sortedBothEnds();
        placePlace();
        placeEngine();
        placeAmongEqualOnes();
        agreeOnEdges();
        agreeWithNone();
        sortWithoutEngine();
        sortNothingToMove();
        sortEverythingMoves();
        sortByPlacesAmongEqualOnes();
        selectPlace();
        selectBothEnds();
        CHECKS.end();
    }

    private static void sortedPlace() {
        CHECKS.sentence("9: BAD when there is none");
        kthOrNone("sorted", SortSuite::sorted, false);
    }

    private static void placePlace() {
        CHECKS.sentence("10: BAD as in sorted, when there is none");
        kthOrNone("place", SortSuite::place, true);
    }

    private static void sortedEngine() {
        CHECKS.sentence("9: BAD when there is no such engine");
        noEngine("sorted", SortSuite::sorted);
    }

    private static void placeEngine() {
        CHECKS.sentence("10: BAD as in sorted, when there is no such engine");
        noEngine("place", SortSuite::place);
    }

    /** The first and the last of the order, and those just outside it and far off. */
    private static void kthOrNone(String name, Asking asking, boolean wantPlace) {
        for (int engine = 0; engine < Checks.ENGINES; engine++) {
            for (int size : SIZES) {
                int[] list = Checks.mixed(size);
                int[] places = Model.order(list);
                for (int k : new int[] {0, size / 2, size - 1}) {
                    int want = wantPlace ? places[k] : list[places[k]];
                    dueAsked(name, asking, engine, k, want, list);
                }
                dueNoneAsked(name, asking, engine, list);
            }
            dueNoneAsked(name, asking, engine, EMPTY);
            dueAsked(name, asking, engine, 0, BAD, EMPTY);
        }
    }

    private static void dueNoneAsked(String name, Asking asking, int engine, int[] list) {
        for (int k : kNotThere(list.length)) {
            dueAsked(name, asking, engine, k, BAD, list);
        }
    }

    private static int[] kNotThere(int size) {
        return new int[] {-1, -2, size, size + 1, 40, 41, LEAST, LEAST + 1, LEAST + size, GREATEST - 1, GREATEST};
    }

    private static void noEngine(String name, Asking asking) {
        for (int none : Checks.NO_ENGINES) {
            for (int size : SIZES) {
                int[] list = Checks.mixed(size);
                dueAsked(name, asking, none, 0, BAD, list);
                dueAsked(name, asking, none, size - 1, BAD, list);
                // Wrong in both.
                dueAsked(name, asking, none, size, BAD, list);
                dueAsked(name, asking, none, -1, BAD, list);
                dueAsked(name, asking, none, none, BAD, list);
            }
            dueAsked(name, asking, none, 0, BAD, EMPTY);
        }
    }

    private static void dueAsked(String name, Asking asking, int engine, int k, int answer, int[] list) {
        String call = name + "(" + engine + ", " + k + ")";
        CHECKS.dueUnchanged(call, s -> asking.ask(s, engine, k), answer, list);
    }

    private static void sortedBothEnds() {
        CHECKS.sentence("9: the k-th number (0 the first)");
        int[] ends = {99, 0, -99};
        for (int engine = 0; engine < Checks.ENGINES; engine++) {
            dueAsked("sorted", SortSuite::sorted, engine, 0, -99, ends);
            dueAsked("sorted", SortSuite::sorted, engine, 1, 0, ends);
            dueAsked("sorted", SortSuite::sorted, engine, 2, 99, ends);
            dueAsked("sorted", SortSuite::sorted, engine, 0, -99, Checks.rising(40));
            dueAsked("sorted", SortSuite::sorted, engine, 39, 96, Checks.rising(40));
            dueAsked("sorted", SortSuite::sorted, engine, 0, -96, Checks.falling(40));
            dueAsked("sorted", SortSuite::sorted, engine, 39, 99, Checks.falling(40));
        }
    }

    private static void placeAmongEqualOnes() {
        CHECKS.sentence("10: its place, from 0 to 39, equal ones in their own order");
        for (int engine = 0; engine < Checks.ENGINES; engine++) {
            dueAsked("place", SortSuite::place, engine, 0, 39, Checks.falling(40));
            dueAsked("place", SortSuite::place, engine, 39, 0, Checks.falling(40));
            SortSuite equal = Checks.listOf(Checks.equal(40));
            for (int k = 0; k < 40; k++) {
                CHECKS.due("place(" + engine + ", " + k + ") of 40 equal ones", equal.place(engine, k), k);
            }
            int[] lastIsLess = Checks.joined(Checks.equal(39), -8);
            dueAsked("place", SortSuite::place, engine, 0, 39, lastIsLess);
            dueAsked("place", SortSuite::place, engine, 1, 0, lastIsLess);
            dueAsked("place", SortSuite::place, engine, 39, 38, lastIsLess);
        }
    }

    private static void dueAgree(int engine, int other, boolean answer, int[] list) {
        String call = "agree(" + engine + ", " + other + ")";
        CHECKS.dueUnchanged(call, s -> s.agree(engine, other) ? 1 : 0, answer ? 1 : 0, list);
    }

    private static void agreeOnEdges() {
        CHECKS.sentence("11: whether two engines find the same sorted order");
        for (int engine = 0; engine < Checks.ENGINES; engine++) {
            for (int other = 0; other < Checks.ENGINES; other++) {
                dueAgree(engine, other, true, EMPTY);
                dueAgree(engine, other, true, new int[] {-99});
                dueAgree(engine, other, true, Checks.equal(40));
                dueAgree(engine, other, true, Checks.falling(40));
                dueAgree(engine, other, true, Checks.fewKinds(40));
            }
        }
    }

    private static void agreeWithNone() {
        CHECKS.sentence("11: false when one of them is none");
        for (int[] list : new int[][] {EMPTY, {5}, {5, 4}, Checks.fewKinds(40)}) {
            for (int none : Checks.NO_ENGINES) {
                for (int engine = 0; engine < Checks.ENGINES; engine++) {
                    dueAgree(engine, none, false, list);
                    dueAgree(none, engine, false, list);
                }
                for (int other : Checks.NO_ENGINES) {
                    dueAgree(none, other, false, list);
                }
            }
        }
    }

    private static void dueSort(int engine, int answer, int[] before, int... after) {
        ToLongFunction<SortSuite> call = s -> s.sort(engine);
        CHECKS.dueTaken("sort(" + engine + ")", call, answer, before, after);
    }

    private static void sortWithoutEngine() {
        CHECKS.sentence("12: BAD when there is no such engine");
        for (int none : Checks.NO_ENGINES) {
            for (int[] list : new int[][] {EMPTY, {5}, {5, 4}, Checks.rising(40), Checks.falling(40)}) {
                CHECKS.dueUnchanged("sort(" + none + ")", s -> s.sort(none), BAD, list);
            }
        }
    }

    private static void sortNothingToMove() {
        CHECKS.sentence("12: none is at another place: no number, one, or all in order before");
        for (int engine = 0; engine < Checks.ENGINES; engine++) {
            for (int[] list : new int[][] {EMPTY, {-99}, {99}, {-99, 99}, {4, 4}}) {
                dueSort(engine, 0, list, list);
            }
            dueSort(engine, 0, Checks.rising(40), Checks.rising(40));
            dueSort(engine, 0, Checks.equal(40), Checks.equal(40));
        }
    }

    private static void sortEverythingMoves() {
        CHECKS.sentence("12: puts the list in its sorted order, up to 40 at another place");
        int[] turnedRound = Checks.joined(new int[] {99}, Checks.row(0, 1, 39));
        int[] inOrder = Checks.joined(Checks.row(0, 1, 39), 99);
        int[] endsChanged = Checks.joined(Checks.joined(new int[] {99}, Checks.row(0, 1, 38)), -99);
        int[] endsInOrder = Checks.joined(Checks.joined(new int[] {-99}, Checks.row(0, 1, 38)), 99);
        for (int engine = 0; engine < Checks.ENGINES; engine++) {
            dueSort(engine, 2, new int[] {99, -99}, -99, 99);
            dueSort(engine, 40, Checks.falling(40), Checks.row(-96, 5, 40));
            // The one in the middle stays.
            dueSort(engine, 38, Checks.falling(39), Checks.row(-91, 5, 39));
            dueSort(engine, 40, turnedRound, inOrder);
            dueSort(engine, 2, endsChanged, endsInOrder);
        }
    }

    private static void sortByPlacesAmongEqualOnes() {
        CHECKS.sentence("12: by their places, also among equal ones");
        int[] lastIsLess = Checks.joined(Checks.equal(39), -8);
        int[] firstIsLess = Checks.joined(new int[] {-8}, Checks.equal(39));
        for (int engine = 0; engine < Checks.ENGINES; engine++) {
            // Only two places hold another number than before, but every number has moved.
            dueSort(engine, 3, new int[] {2, 2, 1}, 1, 2, 2);
            dueSort(engine, 40, lastIsLess, firstIsLess);
            dueSort(engine, 3, new int[] {0, 9, 5, 5, 9}, 0, 5, 5, 9, 9);
        }
    }

    private static void dueSelect(int k, int answer, int[] list) {
        CHECKS.dueUnchanged("select(" + k + ")", s -> s.select(k), answer, list);
    }

    private static void selectPlace() {
        CHECKS.sentence("13: BAD when there is none");
        for (int size : SIZES) {
            int[] list = Checks.fewKinds(size);
            int[] places = Model.order(list);
            dueSelect(0, list[places[0]], list);
            dueSelect(size - 1, list[places[size - 1]], list);
            for (int k : kNotThere(size)) {
                dueSelect(k, BAD, list);
            }
        }
        for (int k : kNotThere(0)) {
            dueSelect(k, BAD, EMPTY);
        }
    }

    private static void selectBothEnds() {
        CHECKS.sentence("13: the k-th number of the sorted order");
        dueSelect(0, -99, new int[] {-99});
        dueSelect(0, 99, new int[] {99});
        dueSelect(0, -99, new int[] {99, -99});
        dueSelect(1, 99, new int[] {99, -99});
        for (int k = 0; k < 40; k++) {
            dueSelect(k, -99 + 5 * k, Checks.rising(40));
            dueSelect(k, -96 + 5 * k, Checks.falling(40));
            dueSelect(k, -7, Checks.equal(40));
            dueSelect(k, k == 0 ? -8 : -7, Checks.joined(Checks.equal(39), -8));
        }
    }
}
