import java.util.Arrays;
import java.util.function.ToLongFunction;

/** Counts wrong answers, prints each, and ends a test's main method. */
final class Checks {
    static final int LEAST = Integer.MIN_VALUE;
    static final int GREATEST = Integer.MAX_VALUE;
    static final int[] EXTREMES = {LEAST, LEAST + 1, GREATEST - 1, GREATEST};
    static final int ENGINES = 12;
    static final int[] NO_ENGINES = {-1, 12, 13, -12, 256, LEAST, LEAST + 1, GREATEST - 1, GREATEST};
    static final int CAPACITY = 40;

    private int wrong = 0;
    private String sentence = "";

    /** What is checked from here on is what these words of the document ask for. */
    void sentence(String words) {
        sentence = "[" + words + "] ";
    }

    void due(String call, long got, long want) {
        if (got != want) {
            wrong++;
            System.out.println(sentence + call + " answered " + got + ", due is " + want);
        }
    }

    void due(String call, boolean got, boolean want) {
        if (got != want) {
            wrong++;
            System.out.println(sentence + call + " answered " + got + ", due is " + want);
        }
    }

    /** A call that throws is told with its sentence, too, and those behind it are still made. */
    void dueAnswer(String told, ToLongFunction<SortSuite> call, SortSuite suite, long want) {
        try {
            due(told, call.applyAsLong(suite), want);
        } catch (RuntimeException thrown) {
            wrong++;
            System.out.println(sentence + told + " threw " + thrown + ", due is " + want);
        }
    }

    void dueList(String when, SortSuite suite, int... want) {
        due("size() " + when, suite.size(), want.length);
        for (int i = 0; i < want.length; i++) {
            due("at(" + i + ") " + when, suite.at(i), want[i]);
        }
        due("at(size) " + when, suite.at(want.length), SortSuite.BAD);
    }

    /** A call on a new object with one list is answered so, and leaves it with another list. */
    void dueTaken(String name, ToLongFunction<SortSuite> call, long answer, int[] before, int... after) {
        SortSuite suite = listOf(before);
        String told = name + " on " + Arrays.toString(before);
        dueAnswer(told, call, suite, answer);
        dueList("after " + told, suite, after);
    }

    /** A call on a new object with this list is answered so, and then all is as if it had not been made. */
    void dueUnchanged(String name, ToLongFunction<SortSuite> call, long answer, int... list) {
        SortSuite suite = listOf(list);
        String told = name + " on " + Arrays.toString(list);
        dueAnswer(told, call, suite, answer);
        dueList("after " + told, suite, list);
        // What was refused has left nothing behind the list's end either.
        boolean room = list.length < CAPACITY;
        due("append(-7, 0, 1) after " + told, suite.append(-7, 0, 1), room ? list.length + 1 : SortSuite.FULL);
        dueList("after append(-7, 0, 1) after " + told, suite, room ? joined(list, -7) : list);
    }

    static SortSuite listOf(int... numbers) {
        SortSuite suite = new SortSuite();
        for (int number : numbers) {
            suite.append(number, 0, 1);
        }
        return suite;
    }

    static int[] row(int first, int step, int length) {
        int[] numbers = new int[length];
        for (int i = 0; i < length; i++) {
            numbers[i] = first + i * step;
        }
        return numbers;
    }

    static int[] rising(int length) {
        return row(-99, 5, length);
    }

    static int[] falling(int length) {
        return row(99, -5, length);
    }

    static int[] equal(int length) {
        return row(-7, 0, length);
    }

    /** All different. */
    static int[] mixed(int length) {
        int[] numbers = new int[length];
        for (int i = 0; i < length; i++) {
            numbers[i] = (i * 83 + 17) % 199 - 99;
        }
        return numbers;
    }

    /** Few kinds, so that there are equal ones far apart, with both ends of the numbers among them. */
    static int[] fewKinds(int length) {
        int[] kinds = {99, -99, 0, -1};
        int[] numbers = new int[length];
        for (int i = 0; i < length; i++) {
            numbers[i] = kinds[i * i % 7 % kinds.length];
        }
        return numbers;
    }

    static int[] joined(int[] numbers, int... more) {
        int[] all = Arrays.copyOf(numbers, numbers.length + more.length);
        System.arraycopy(more, 0, all, numbers.length, more.length);
        return all;
    }

    void end() {
        System.out.println(wrong == 0 ? "all answers are as due" : wrong + " answers are not as due");
        if (wrong != 0) {
            System.exit(1);
        }
    }
}
