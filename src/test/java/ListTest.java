/** Promises 2 to 8 in ordinary use: the list and the calls that change it. */
public final class ListTest {
    private static final Checks CHECKS = new Checks();

    public static void main(String[] args) {
        appendOrdinary();
        repeatOrdinary();
        change();
        turn();
        remove();
        atAndSize();
        objectsAreApart();
        CHECKS.end();
    }

    private static void appendOrdinary() {
        SortSuite suite = new SortSuite();
        CHECKS.due("append(4, 3, 3)", suite.append(4, 3, 3), 3);
        CHECKS.due("append(-2, -5, 2)", suite.append(-2, -5, 2), 5);
        CHECKS.due("append(6, 0, 2)", suite.append(6, 0, 2), 7);
        CHECKS.due("append(99, 99, 1)", suite.append(99, 99, 1), 8);
        CHECKS.due("append(-99, -99, 1)", suite.append(-99, -99, 1), 9);
        CHECKS.due("append(-99, 99, 3)", suite.append(-99, 99, 3), 12);
        CHECKS.due("append(99, -99, 3)", suite.append(99, -99, 3), 15);
        CHECKS.dueList("after append", suite, 4, 7, 10, -2, -7, 6, 6, 99, -99, -99, 0, 99, 99, 0, -99);
    }

    private static void repeatOrdinary() {
        SortSuite suite = Checks.listOf(3, -4, 0);
        CHECKS.due("repeat(2, false)", suite.repeat(2, false), 5);
        CHECKS.dueList("after repeat(2, false)", suite, 3, -4, 0, 3, -4);
        CHECKS.due("repeat(3, true)", suite.repeat(3, true), 8);
        CHECKS.dueList("after repeat(3, true)", suite, 3, -4, 0, 3, -4, -3, 4, 0);
        CHECKS.due("repeat(0, true)", suite.repeat(0, true), 8);
        CHECKS.due("repeat(0, false)", suite.repeat(0, false), 8);
        CHECKS.due("repeat(8, true)", suite.repeat(8, true), 16);
        CHECKS.dueList("after repeat(8, true)", suite, 3, -4, 0, 3, -4, -3, 4, 0, -3, 4, 0, -3, 4, 3, -4, 0);
        SortSuite ends = Checks.listOf(99, -99);
        CHECKS.due("repeat(2, true) of 99, -99", ends.repeat(2, true), 4);
        CHECKS.dueList("after repeat(2, true)", ends, 99, -99, -99, 99);
    }

    private static void change() {
        SortSuite suite = Checks.listOf(5, 6, 7);
        CHECKS.due("change(0, 99)", suite.change(0, 99), 5);
        CHECKS.due("change(2, -99)", suite.change(2, -99), 7);
        CHECKS.due("change(2, 1)", suite.change(2, 1), -99);
        CHECKS.due("change(1, 6)", suite.change(1, 6), 6);
        CHECKS.dueList("after change", suite, 99, 6, 1);
    }

    private static void turn() {
        SortSuite suite = Checks.listOf(1, 2, 3, 4, 5);
        CHECKS.due("turn(0, 4)", suite.turn(0, 4), true);
        CHECKS.dueList("after turn(0, 4)", suite, 5, 4, 3, 2, 1);
        CHECKS.due("turn(1, 2)", suite.turn(1, 2), true);
        CHECKS.dueList("after turn(1, 2)", suite, 5, 3, 4, 2, 1);
        CHECKS.due("turn(1, 4)", suite.turn(1, 4), true);
        CHECKS.dueList("after turn(1, 4)", suite, 5, 1, 2, 4, 3);
        CHECKS.due("turn(4, 4)", suite.turn(4, 4), true);
        CHECKS.due("turn(0, 0)", suite.turn(0, 0), true);
        CHECKS.dueList("after turns of one number", suite, 5, 1, 2, 4, 3);
    }

    private static void remove() {
        SortSuite suite = Checks.listOf(1, 2, 3, 4);
        CHECKS.due("remove(1)", suite.remove(1), 2);
        CHECKS.dueList("after remove(1)", suite, 1, 3, 4);
        CHECKS.due("remove(2)", suite.remove(2), 4);
        CHECKS.dueList("after remove(2)", suite, 1, 3);
        CHECKS.due("remove(0)", suite.remove(0), 1);
        CHECKS.dueList("after remove(0)", suite, 3);
        CHECKS.due("remove(0)", suite.remove(0), 3);
        CHECKS.dueList("after all are out", suite);
    }

    private static void atAndSize() {
        SortSuite suite = Checks.listOf(-99, 0, 99);
        CHECKS.dueList("of -99, 0, 99", suite, -99, 0, 99);
        CHECKS.due("size()", suite.size(), 3);
    }

    private static void objectsAreApart() {
        SortSuite one = Checks.listOf(1, 2);
        SortSuite other = Checks.listOf(7);
        one.change(0, 5);
        CHECKS.dueList("of one object", one, 5, 2);
        CHECKS.dueList("of another object", other, 7);
    }
}
