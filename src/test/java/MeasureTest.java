/** Promises 14 to 17 in ordinary use: what is measured of the list, and where a number begins. */
public final class MeasureTest {
    private static final Checks CHECKS = new Checks();

    public static void main(String[] args) {
        measures("two in order", 0, 0, 2, 1, 2);
        measures("two turned", 1, 1, 1, 2, 1);
        measures("equal ones", 0, 0, 1, 3, 3, 3, 3);
        measures("a cycle of three", 2, 2, 2, 2, 3, 1);
        measures("equal ones to their own places", 2, 2, 1, 2, 2, 1);
        measures("three turned", 3, 1, 1, 3, 2, 1);
        measures("two cycles", 2, 2, 2, 2, 1, 4, 3);
        measures("gaps among those that grow", 6, 4, 4, 5, -99, 7, 0, 1, 99, 98);
        measures("equal ones do not grow", 2, 2, 3, 1, 1, 2, 2, 1, 3);
        measures("greatest first", 4, 4, 4, 99, -99, 0, 1, 2);
        find();
        nothingIsChanged();
        exchangesBySearch();
        CHECKS.end();
    }

    private static void measures(String name, int inversions, int exchanges, int growing, int... numbers) {
        SortSuite suite = Checks.listOf(numbers);
        CHECKS.sentence("14: inversions");
        CHECKS.due("inversions() of " + name, suite.inversions(), inversions);
        CHECKS.sentence("15: exchanges");
        CHECKS.due("exchanges() of " + name, suite.exchanges(), exchanges);
        CHECKS.sentence("16: growing");
        CHECKS.due("growing() of " + name, suite.growing(), growing);
    }

    private static void find() {
        CHECKS.sentence("17: find");
        SortSuite suite = Checks.listOf(4, -99, 4, 99, 0, 4);
        CHECKS.due("find(-100)", suite.find(-100), 0);
        CHECKS.due("find(-99)", suite.find(-99), 0);
        CHECKS.due("find(-98)", suite.find(-98), 1);
        CHECKS.due("find(0)", suite.find(0), 1);
        CHECKS.due("find(3)", suite.find(3), 2);
        CHECKS.due("find(4)", suite.find(4), 2);
        CHECKS.due("find(5)", suite.find(5), 5);
        CHECKS.due("find(99)", suite.find(99), 5);
        CHECKS.due("find(100)", suite.find(100), 6);
    }

    private static void nothingIsChanged() {
        CHECKS.sentence("14 to 17: asked twice");
        int[] numbers = {4, -99, 4, 99, 0, 4};
        SortSuite suite = Checks.listOf(numbers);
        for (int round = 0; round < 2; round++) {
            CHECKS.due("inversions()", suite.inversions(), 5);
            CHECKS.due("exchanges()", suite.exchanges(), 5);
            CHECKS.due("growing()", suite.growing(), 3);
            CHECKS.due("find(4)", suite.find(4), 2);
            CHECKS.dueList("after measuring", suite, numbers);
        }
    }

    /** The least number of exchanges as the words say it: tried out, not reckoned from cycles. */
    private static void exchangesBySearch() {
        CHECKS.sentence("15: the least number of exchanges");
        int[] values = {-1, 0, 1, 2, 3};
        for (int code = 0; code < 3125; code++) {
            int[] numbers = new int[5];
            int rest = code;
            for (int i = 0; i < 5; i++) {
                numbers[i] = values[rest % 5];
                rest /= 5;
            }
            String call = "exchanges() of " + java.util.Arrays.toString(numbers);
            CHECKS.due(call, Checks.listOf(numbers).exchanges(), leastExchanges(Model.order(numbers)));
        }
    }

    private static int leastExchanges(int[] order) {
        for (int budget = 0; ; budget++) {
            if (canSort(order.clone(), budget)) {
                return budget;
            }
        }
    }

    private static boolean canSort(int[] order, int budget) {
        boolean inPlace = true;
        for (int k = 0; k < order.length; k++) {
            inPlace &= order[k] == k;
        }
        if (inPlace || budget == 0) {
            return inPlace;
        }
        for (int i = 0; i < order.length; i++) {
            for (int j = i + 1; j < order.length; j++) {
                swap(order, i, j);
                boolean done = canSort(order, budget - 1);
                swap(order, i, j);
                if (done) {
                    return true;
                }
            }
        }
        return false;
    }

    private static void swap(int[] array, int i, int j) {
        int kept = array[i];
        array[i] = array[j];
        array[j] = kept;
    }
}
