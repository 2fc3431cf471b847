/** Promises 1 to 8 in ordinary use: the list and the calls that change it. */
public final class ListTest {
    private static final Checks CHECKS = new Checks();

    public static void main(String[] args) {
        newObject();
        append();
        repeat();
        change();
        turn();
        remove();
        at();
        size();
        CHECKS.end();
    }

    private static void newObject() {
        CHECKS.sentence("1: an empty list");
        CHECKS.dueList("of a new object", new SortSuite());
        SortSuite one = Checks.listOf(1, 2);
        SortSuite other = new SortSuite();
        CHECKS.dueList("of another new object", other);
        CHECKS.due("append(7, 0, 1)", other.append(7, 0, 1), 1);
        CHECKS.due("change(0, 5)", one.change(0, 5), 1);
        CHECKS.dueList("of the one object", one, 5, 2);
        CHECKS.dueList("of the other object", other, 7);
    }

    private static void append() {
        CHECKS.sentence("2: append");
        SortSuite suite = new SortSuite();
        CHECKS.due("append(4, 3, 3)", suite.append(4, 3, 3), 3);
        CHECKS.due("append(-2, -5, 2)", suite.append(-2, -5, 2), 5);
        CHECKS.due("append(6, 0, 2)", suite.append(6, 0, 2), 7);
        CHECKS.due("append(99, 99, 1)", suite.append(99, 99, 1), 8);
        CHECKS.due("append(-99, -99, 1)", suite.append(-99, -99, 1), 9);
        CHECKS.due("append(-99, 99, 3)", suite.append(-99, 99, 3), 12);
        CHECKS.due("append(99, -99, 3)", suite.append(99, -99, 3), 15);
        CHECKS.dueList("after append", suite, 4, 7, 10, -2, -7, 6, 6, 99, -99, -99, 0, 99, 99, 0, -99);
    }

    private static void repeat() {
        CHECKS.sentence("3: repeat");
        SortSuite suite = Checks.listOf(3, -4, 0);
        CHECKS.due("repeat(2, false)", suite.repeat(2, false), 5);
        CHECKS.dueList("after repeat(2, false)", suite, 3, -4, 0, 3, -4);
        CHECKS.due("repeat(3, true)", suite.repeat(3, true), 8);
        CHECKS.dueList("after repeat(3, true)", suite, 3, -4, 0, 3, -4, -3, 4, 0);
        CHECKS.due("repeat(0, true)", suite.repeat(0, true), 8);
        CHECKS.due("repeat(0, false)", suite.repeat(0, false), 8);
        CHECKS.due("repeat(8, true)", suite.repeat(8, true), 16);
        CHECKS.dueList("after repeat(8, true)", suite, 3, -4, 0, 3, -4, -3, 4, 0, -3, 4, 0, -3, 4, 3, -4, 0);
        SortSuite ends = Checks.listOf(99, -99);
        CHECKS.due("repeat(2, true) of 99, -99", ends.repeat(2, true), 4);
        CHECKS.dueList("after repeat(2, true)", ends, 99, -99, -99, 99);
    }

    private static void change() {
        CHECKS.sentence("4: change");
        SortSuite suite = Checks.listOf(5, 6, 7);
        CHECKS.due("change(0, 99)", suite.change(0, 99), 5);
        CHECKS.due("change(2, -99)", suite.change(2, -99), 7);
        CHECKS.due("change(2, 1)", suite.change(2, 1), -99);
        CHECKS.due("change(1, 6)", suite.change(1, 6), 6);
        CHECKS.dueList("after change", suite, 99, 6, 1);
    }

    private static void turn() {
        CHECKS.sentence("5: turn");
        SortSuite suite = Checks.listOf(1, 2, 3, 4, 5);
        CHECKS.due("turn(0, 4)", suite.turn(0, 4), true);
        CHECKS.dueList("after turn(0, 4)", suite, 5, 4, 3, 2, 1);
        CHECKS.due("turn(1, 2)", suite.turn(1, 2), true);
        CHECKS.dueList("after turn(1, 2)", suite, 5, 3, 4, 2, 1);
        CHECKS.due("turn(1, 4)", suite.turn(1, 4), true);
        CHECKS.dueList("after turn(1, 4)", suite, 5, 1, 2, 4, 3);
        CHECKS.due("turn(4, 4)", suite.turn(4, 4), true);
        CHECKS.due("turn(0, 0)", suite.turn(0, 0), true);
        CHECKS.dueList("after turns of one number", suite, 5, 1, 2, 4, 3);
    }

    private static void remove() {
        CHECKS.sentence("6: remove");
        SortSuite suite = Checks.listOf(1, 2, 3, 4);
        CHECKS.due("remove(1)", suite.remove(1), 2);
        CHECKS.dueList("after remove(1)", suite, 1, 3, 4);
        CHECKS.due("remove(2)", suite.remove(2), 4);
        CHECKS.dueList("after remove(2)", suite, 1, 3);
        CHECKS.due("remove(0)", suite.remove(0), 1);
        CHECKS.dueList("after remove(0)", suite, 3);
        CHECKS.due("remove(0)", suite.remove(0), 3);
        CHECKS.dueList("after all are out", suite);
    }

    private static void at() {
        CHECKS.sentence("7: at");
        SortSuite suite = Checks.listOf(-99, 0, 99);
        CHECKS.dueList("of -99, 0, 99", suite, -99, 0, 99);
        suite.remove(0);
        CHECKS.due("at(0) after remove(0)", suite.at(0), 0);
        suite.change(0, 12);
        CHECKS.due("at(0) after change(0, 12)", suite.at(0), 12);
        suite.turn(0, 1);
        CHECKS.due("at(0) after turn(0, 1)", suite.at(0), 99);
        suite.sort(0);
        CHECKS.due("at(0) after sort(0)", suite.at(0), 12);
    }

    private static void size() {
        CHECKS.sentence("8: size");
        SortSuite suite = new SortSuite();
        CHECKS.due("size()", suite.size(), 0);
        suite.append(4, 4, 4);
        CHECKS.due("size() after append of 4", suite.size(), 4);
        suite.repeat(3, true);
        CHECKS.due("size() after repeat of 3", suite.size(), 7);
        suite.remove(5);
        CHECKS.due("size() after remove", suite.size(), 6);
        suite.change(2, 50);
        suite.turn(1, 4);
        suite.sort(9);
        CHECKS.due("size() after change, turn and sort", suite.size(), 6);
    }
}
