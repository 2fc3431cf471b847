/** Promises 1 to 8: the list and the calls that change it. */
public final class ListTest {
    private static final Checks CHECKS = new Checks();
    private static final int BAD = SortSuite.BAD;
    private static final int FULL = SortSuite.FULL;

    public static void main(String[] args) {
        newObject();
        appendOrdinary();
        appendBad();
        appendFull();
        repeatOrdinary();
        repeatBadAndFull();
        change();
        turn();
        remove();
        atAndSize();
        objectsAreApart();
        CHECKS.end();
    }

    private static void newObject() {
        SortSuite suite = new SortSuite();
        CHECKS.dueList("of a new object", suite);
        CHECKS.due("at(0) of a new object", suite.at(0), BAD);
        CHECKS.due("remove(0) of a new object", suite.remove(0), BAD);
        CHECKS.due("change(0, 0) of a new object", suite.change(0, 0), BAD);
        CHECKS.due("turn(0, 0) of a new object", suite.turn(0, 0), false);
        CHECKS.due("repeat(0, true) of a new object", suite.repeat(0, true), 0);
        CHECKS.due("repeat(1, true) of a new object", suite.repeat(1, true), BAD);
        CHECKS.dueList("after calls that change nothing", suite);
    }

    private static void appendOrdinary() {
        SortSuite suite = new SortSuite();
        CHECKS.due("append(4, 3, 3)", suite.append(4, 3, 3), 3);
        CHECKS.due("append(-2, -5, 2)", suite.append(-2, -5, 2), 5);
        CHECKS.due("append(6, 0, 2)", suite.append(6, 0, 2), 7);
        CHECKS.due("append(99, 99, 1)", suite.append(99, 99, 1), 8);
        CHECKS.due("append(-99, -99, 1)", suite.append(-99, -99, 1), 9);
        CHECKS.due("append(-99, 99, 3)", suite.append(-99, 99, 3), 12);
        CHECKS.due("append(99, -99, 3)", suite.append(99, -99, 3), 15);
        CHECKS.dueList("after append", suite, 4, 7, 10, -2, -7, 6, 6, 99, -99, -99, 0, 99, 99, 0, -99);
    }

    private static void appendBad() {
        SortSuite suite = Checks.listOf(1, 2);
        int[][] bad = {
            {0, 0, 0}, {0, 0, -1}, {0, 0, 41}, {100, 0, 1}, {-100, 0, 1}, {0, 100, 1}, {0, -100, 1},
            {0, 50, 3}, {0, -50, 3}, {1, 99, 2}, {-1, -99, 2}, {60, 1, 41}, {61, 1, 40}, {-61, -1, 40},
            {100, -1, 2}, {-100, 1, 2}, {0, 1 << 30, 5}, {0, 1 << 31, 3}, {0, 99, 40}, {0, 99, 0}
        };
        for (int[] b : bad) {
            CHECKS.due("append(" + b[0] + ", " + b[1] + ", " + b[2] + ")", suite.append(b[0], b[1], b[2]), BAD);
        }
        for (int extreme : Checks.EXTREMES) {
            CHECKS.due("append(extreme, 0, 1)", suite.append(extreme, 0, 1), BAD);
            CHECKS.due("append(0, extreme, 1)", suite.append(0, extreme, 1), BAD);
            CHECKS.due("append(0, extreme, 3)", suite.append(0, extreme, 3), BAD);
            CHECKS.due("append(0, 0, extreme)", suite.append(0, 0, extreme), BAD);
            CHECKS.due("append(extreme, extreme, extreme)", suite.append(extreme, extreme, extreme), BAD);
        }
        CHECKS.dueList("after bad appends", suite, 1, 2);
    }

    private static void appendFull() {
        SortSuite suite = new SortSuite();
        CHECKS.due("append(60, 1, 40)", suite.append(60, 1, 40), 40);
        CHECKS.due("at(39)", suite.at(39), 99);
        CHECKS.due("append(0, 0, 1) when full", suite.append(0, 0, 1), FULL);
        CHECKS.due("append(0, 0, 40) when full", suite.append(0, 0, 40), FULL);
        CHECKS.due("append(0, 0, 41) when full", suite.append(0, 0, 41), BAD);
        CHECKS.due("append(0, 0, 0) when full", suite.append(0, 0, 0), BAD);
        CHECKS.due("append(100, 0, 1) when full", suite.append(100, 0, 1), BAD);
        CHECKS.due("append(99, 1, 2) when full", suite.append(99, 1, 2), BAD);
        CHECKS.due("append(0, 100, 1) when full", suite.append(0, 100, 1), BAD);
        suite.remove(0);
        suite.remove(0);
        CHECKS.due("append(5, 1, 3) with room for two", suite.append(5, 1, 3), FULL);
        CHECKS.due("size() after FULL", suite.size(), 38);
        CHECKS.due("at(37) after FULL", suite.at(37), 99);
        CHECKS.due("at(38) after FULL", suite.at(38), BAD);
        CHECKS.due("append(5, 1, 2) with room for two", suite.append(5, 1, 2), 40);
        CHECKS.due("at(39) after append", suite.at(39), 6);
    }

    private static void repeatOrdinary() {
        SortSuite suite = Checks.listOf(3, -4, 0);
        CHECKS.due("repeat(2, false)", suite.repeat(2, false), 5);
        CHECKS.dueList("after repeat(2, false)", suite, 3, -4, 0, 3, -4);
        CHECKS.due("repeat(3, true)", suite.repeat(3, true), 8);
        CHECKS.dueList("after repeat(3, true)", suite, 3, -4, 0, 3, -4, -3, 4, 0);
        CHECKS.due("repeat(0, true)", suite.repeat(0, true), 8);
        CHECKS.due("repeat(0, false)", suite.repeat(0, false), 8);
        CHECKS.due("repeat(8, true)", suite.repeat(8, true), 16);
        CHECKS.dueList("after repeat(8, true)", suite, 3, -4, 0, 3, -4, -3, 4, 0, -3, 4, 0, -3, 4, 3, -4, 0);
        SortSuite ends = Checks.listOf(99, -99);
        CHECKS.due("repeat(2, true) of 99, -99", ends.repeat(2, true), 4);
        CHECKS.dueList("after repeat(2, true)", ends, 99, -99, -99, 99);
    }

    private static void repeatBadAndFull() {
        SortSuite suite = new SortSuite();
        suite.append(1, 1, 21);
        CHECKS.due("repeat(-1, false)", suite.repeat(-1, false), BAD);
        CHECKS.due("repeat(22, false)", suite.repeat(22, false), BAD);
        for (int extreme : Checks.EXTREMES) {
            CHECKS.due("repeat(extreme, false)", suite.repeat(extreme, false), BAD);
            CHECKS.due("repeat(extreme, true)", suite.repeat(extreme, true), BAD);
        }
        CHECKS.due("repeat(20, false) of 21", suite.repeat(20, false), FULL);
        CHECKS.due("repeat(21, true) of 21", suite.repeat(21, true), FULL);
        CHECKS.due("size() after FULL", suite.size(), 21);
        CHECKS.due("at(21) after FULL", suite.at(21), BAD);
        CHECKS.due("repeat(19, true) of 21", suite.repeat(19, true), 40);
        CHECKS.due("at(39)", suite.at(39), -19);
        CHECKS.due("repeat(0, true) when full", suite.repeat(0, true), 40);
        CHECKS.due("repeat(1, true) when full", suite.repeat(1, true), FULL);
        CHECKS.due("repeat(40, true) when full", suite.repeat(40, true), FULL);
        CHECKS.due("repeat(41, true) when full", suite.repeat(41, true), BAD);
    }

    private static void change() {
        SortSuite suite = Checks.listOf(5, 6, 7);
        CHECKS.due("change(0, 99)", suite.change(0, 99), 5);
        CHECKS.due("change(2, -99)", suite.change(2, -99), 7);
        CHECKS.due("change(2, 1)", suite.change(2, 1), -99);
        CHECKS.due("change(1, 6)", suite.change(1, 6), 6);
        CHECKS.due("change(1, 100)", suite.change(1, 100), BAD);
        CHECKS.due("change(1, -100)", suite.change(1, -100), BAD);
        CHECKS.due("change(3, 0)", suite.change(3, 0), BAD);
        CHECKS.due("change(-1, 0)", suite.change(-1, 0), BAD);
        CHECKS.due("change(40, 0)", suite.change(40, 0), BAD);
        for (int extreme : Checks.EXTREMES) {
            CHECKS.due("change(extreme, 0)", suite.change(extreme, 0), BAD);
            CHECKS.due("change(0, extreme)", suite.change(0, extreme), BAD);
        }
        CHECKS.dueList("after change", suite, 99, 6, 1);
    }

    private static void turn() {
        SortSuite suite = Checks.listOf(1, 2, 3, 4, 5);
        CHECKS.due("turn(0, 4)", suite.turn(0, 4), true);
        CHECKS.dueList("after turn(0, 4)", suite, 5, 4, 3, 2, 1);
        CHECKS.due("turn(1, 2)", suite.turn(1, 2), true);
        CHECKS.dueList("after turn(1, 2)", suite, 5, 3, 4, 2, 1);
        CHECKS.due("turn(1, 4)", suite.turn(1, 4), true);
        CHECKS.dueList("after turn(1, 4)", suite, 5, 1, 2, 4, 3);
        CHECKS.due("turn(4, 4)", suite.turn(4, 4), true);
        CHECKS.due("turn(0, 0)", suite.turn(0, 0), true);
        CHECKS.due("turn(2, 1)", suite.turn(2, 1), false);
        CHECKS.due("turn(4, 0)", suite.turn(4, 0), false);
        CHECKS.due("turn(0, 5)", suite.turn(0, 5), false);
        CHECKS.due("turn(5, 5)", suite.turn(5, 5), false);
        CHECKS.due("turn(-1, 3)", suite.turn(-1, 3), false);
        CHECKS.due("turn(-2, -1)", suite.turn(-2, -1), false);
        for (int extreme : Checks.EXTREMES) {
            CHECKS.due("turn(extreme, 2)", suite.turn(extreme, 2), false);
            CHECKS.due("turn(2, extreme)", suite.turn(2, extreme), false);
            CHECKS.due("turn(extreme, extreme)", suite.turn(extreme, extreme), false);
        }
        CHECKS.dueList("after turns that do nothing", suite, 5, 1, 2, 4, 3);
    }

    private static void remove() {
        SortSuite suite = Checks.listOf(1, 2, 3, 4);
        CHECKS.due("remove(1)", suite.remove(1), 2);
        CHECKS.dueList("after remove(1)", suite, 1, 3, 4);
        CHECKS.due("remove(3)", suite.remove(3), BAD);
        CHECKS.due("remove(-1)", suite.remove(-1), BAD);
        for (int extreme : Checks.EXTREMES) {
            CHECKS.due("remove(extreme)", suite.remove(extreme), BAD);
        }
        CHECKS.due("remove(2)", suite.remove(2), 4);
        CHECKS.dueList("after remove(2)", suite, 1, 3);
        CHECKS.due("remove(0)", suite.remove(0), 1);
        CHECKS.dueList("after remove(0)", suite, 3);
        CHECKS.due("remove(0)", suite.remove(0), 3);
        CHECKS.dueList("after all are out", suite);
        CHECKS.due("remove(0)", suite.remove(0), BAD);
        SortSuite full = new SortSuite();
        full.append(1, 1, 40);
        CHECKS.due("remove(0) when full", full.remove(0), 1);
        CHECKS.due("at(38)", full.at(38), 40);
        CHECKS.due("at(39)", full.at(39), BAD);
    }

    private static void atAndSize() {
        SortSuite suite = Checks.listOf(-99, 0, 99);
        CHECKS.dueList("of -99, 0, 99", suite, -99, 0, 99);
        CHECKS.due("at(-1)", suite.at(-1), BAD);
        CHECKS.due("at(3)", suite.at(3), BAD);
        CHECKS.due("at(39)", suite.at(39), BAD);
        CHECKS.due("at(40)", suite.at(40), BAD);
        for (int extreme : Checks.EXTREMES) {
            CHECKS.due("at(extreme)", suite.at(extreme), BAD);
        }
        CHECKS.due("size()", suite.size(), 3);
    }

    private static void objectsAreApart() {
        SortSuite one = Checks.listOf(1, 2);
        SortSuite other = Checks.listOf(7);
        one.change(0, 5);
        CHECKS.dueList("of one object", one, 5, 2);
        CHECKS.dueList("of another object", other, 7);
    }
}
