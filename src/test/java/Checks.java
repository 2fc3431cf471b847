/** Counts wrong answers, prints each, and ends a test's main method. */
final class Checks {
    static final int[] EXTREMES = {Integer.MIN_VALUE, Integer.MIN_VALUE + 1, Integer.MAX_VALUE - 1, Integer.MAX_VALUE};
    static final int ENGINES = 12;

    private int wrong = 0;

    void due(String call, long got, long want) {
        if (got != want) {
            wrong++;
            System.out.println(call + " answered " + got + ", due is " + want);
        }
    }

    void due(String call, boolean got, boolean want) {
        if (got != want) {
            wrong++;
            System.out.println(call + " answered " + got + ", due is " + want);
        }
    }

    void dueList(String when, SortSuite suite, int... want) {
        due("size() " + when, suite.size(), want.length);
        for (int i = 0; i < want.length; i++) {
            due("at(" + i + ") " + when, suite.at(i), want[i]);
        }
        due("at(size) " + when, suite.at(want.length), SortSuite.BAD);
    }

    static SortSuite listOf(int... numbers) {
        SortSuite suite = new SortSuite();
        for (int number : numbers) {
            suite.append(number, 0, 1);
        }
        return suite;
    }

    void end() {
        System.out.println(wrong == 0 ? "all answers are as due" : wrong + " answers are not as due");
        if (wrong != 0) {
            System.exit(1);
        }
    }
}
