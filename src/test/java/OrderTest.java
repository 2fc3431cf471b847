/** Promises 9 to 13 in ordinary use: the sorted order, by each engine. */
public final class OrderTest {
    private static final Checks CHECKS = new Checks();
    private static final int[] NUMBERS = {5, -3, 5, 99, -99, -3, 0};
    private static final int[] PLACES = {4, 1, 5, 6, 0, 2, 3};

    public static void main(String[] args) {
        sortedAndPlace();
        agree();
        sort();
        select();
        everyShortList();
        longLists();
        sortCountsByPlaces();
        orderIsFoundAnew();
        CHECKS.end();
    }

    private static void sortedAndPlace() {
        for (int engine = 0; engine < Checks.ENGINES; engine++) {
            SortSuite suite = Checks.listOf(NUMBERS);
            for (int k = 0; k < NUMBERS.length; k++) {
                String call = "(" + engine + ", " + k + ")";
                CHECKS.sentence("9: sorted");
                CHECKS.due("sorted" + call, suite.sorted(engine, k), NUMBERS[PLACES[k]]);
                CHECKS.sentence("10: place");
                CHECKS.due("place" + call, suite.place(engine, k), PLACES[k]);
            }
            CHECKS.dueList("after looking", suite, NUMBERS);
        }
    }

    private static void agree() {
        CHECKS.sentence("11: agree");
        SortSuite suite = Checks.listOf(NUMBERS);
        for (int engine = 0; engine < Checks.ENGINES; engine++) {
            for (int other = 0; other < Checks.ENGINES; other++) {
                CHECKS.due("agree(" + engine + ", " + other + ")", suite.agree(engine, other), true);
            }
        }
        CHECKS.due("agree(3, 12)", suite.agree(3, 12), false);
        CHECKS.dueList("after agree", suite, NUMBERS);
    }

    private static void sort() {
        CHECKS.sentence("12: sort");
        for (int engine = 0; engine < Checks.ENGINES; engine++) {
            SortSuite suite = Checks.listOf(NUMBERS);
            CHECKS.due("sort(" + engine + ")", suite.sort(engine), 6);
            CHECKS.dueList("after sort(" + engine + ")", suite, -99, -3, -3, 0, 5, 5, 99);
            CHECKS.due("sort(" + engine + ") again", suite.sort(engine), 0);
            CHECKS.dueList("after sort(" + engine + ") again", suite, -99, -3, -3, 0, 5, 5, 99);
        }
    }

    private static void select() {
        CHECKS.sentence("13: select");
        SortSuite suite = Checks.listOf(NUMBERS);
        for (int k = 0; k < NUMBERS.length; k++) {
            CHECKS.due("select(" + k + ")", suite.select(k), NUMBERS[PLACES[k]]);
        }
        CHECKS.dueList("after select", suite, NUMBERS);
    }

    /** Every list of up to five numbers out of five, so each way in which equal ones can lie. */
    private static void everyShortList() {
        CHECKS.sentence("9 to 13: every short list");
        int[] values = {-99, -1, 0, 28, 99};
        int lists = 1;
        for (int length = 1; length <= 5; length++) {
            lists *= values.length;
            for (int code = 0; code < lists; code++) {
                int[] numbers = new int[length];
                int rest = code;
                for (int i = 0; i < length; i++) {
                    numbers[i] = values[rest % values.length];
                    rest /= values.length;
                }
                dueOrder(numbers);
            }
        }
    }

    private static void longLists() {
        CHECKS.sentence("9 to 13: long lists");
        for (int length = 6; length <= 40; length++) {
            int[] rising = new int[length];
            int[] falling = new int[length];
            int[] equal = new int[length];
            int[] twoKinds = new int[length];
            int[] pipes = new int[length];
            int[] mixed = new int[length];
            for (int i = 0; i < length; i++) {
                rising[i] = i - 20;
                falling[i] = 99 - 5 * i;
                equal[i] = -7;
                twoKinds[i] = i * i % 7 < 3 ? 1 : -1;
                pipes[i] = i < length / 2 ? 2 * i : 2 * (length - i);
                mixed[i] = (i * 83 + 17) % 199 - 99;
            }
            dueOrder(rising);
            dueOrder(falling);
            dueOrder(equal);
            dueOrder(twoKinds);
            dueOrder(pipes);
            dueOrder(mixed);
        }
    }

    private static void dueOrder(int[] numbers) {
        int[] places = Model.order(numbers);
        int moved = 0;
        int[] inOrder = new int[numbers.length];
        for (int k = 0; k < places.length; k++) {
            inOrder[k] = numbers[places[k]];
            moved += places[k] == k ? 0 : 1;
        }
        for (int engine = 0; engine < Checks.ENGINES; engine++) {
            SortSuite suite = Checks.listOf(numbers);
            for (int k = 0; k < places.length; k++) {
                String call = "(" + engine + ", " + k + ") of " + java.util.Arrays.toString(numbers);
                CHECKS.due("place" + call, suite.place(engine, k), places[k]);
                CHECKS.due("sorted" + call, suite.sorted(engine, k), inOrder[k]);
                CHECKS.due("select" + call, suite.select(k), inOrder[k]);
            }
            CHECKS.due("agree(" + engine + ", next)", suite.agree(engine, (engine + 1) % Checks.ENGINES), true);
            CHECKS.due("agree(" + engine + ", itself)", suite.agree(engine, engine), true);
            CHECKS.due("sort(" + engine + ")", suite.sort(engine), moved);
            CHECKS.dueList("after sort(" + engine + ")", suite, inOrder);
        }
    }

    private static void sortCountsByPlaces() {
        CHECKS.sentence("12: by their places, also among equal ones");
        for (int engine = 0; engine < Checks.ENGINES; engine++) {
            // The 2 that comes to place 1 was at place 0, though a 2 was at place 1 before, too.
            CHECKS.due("sort(" + engine + ") of 2 2 1", Checks.listOf(2, 2, 1).sort(engine), 3);
            CHECKS.due("sort(" + engine + ") of 3 2 1", Checks.listOf(3, 2, 1).sort(engine), 2);
            CHECKS.due("sort(" + engine + ") of 4 4 4", Checks.listOf(4, 4, 4).sort(engine), 0);
            CHECKS.due("sort(" + engine + ") of 9", Checks.listOf(9).sort(engine), 0);
        }
    }

    /** A longer order that was found before leaves nothing behind. */
    private static void orderIsFoundAnew() {
        CHECKS.sentence("10: place, after each call that changes the list");
        for (int engine = 0; engine < Checks.ENGINES; engine++) {
            SortSuite suite = Checks.listOf(9, 8, 7, 6);
            CHECKS.due("place(" + engine + ", 0)", suite.place(engine, 0), 3);
            suite.remove(3);
            CHECKS.due("place(" + engine + ", 0) after remove", suite.place(engine, 0), 2);
            suite.change(1, -5);
            CHECKS.due("place(" + engine + ", 0) after change", suite.place(engine, 0), 1);
            suite.turn(0, 1);
            CHECKS.due("place(" + engine + ", 0) after turn", suite.place(engine, 0), 0);
            suite.append(-6, 0, 1);
            CHECKS.due("place(" + engine + ", 0) after append", suite.place(engine, 0), 3);
            suite.repeat(2, true);
            CHECKS.due("place(" + engine + ", 0) after repeat", suite.place(engine, 0), 5);
        }
    }
}
