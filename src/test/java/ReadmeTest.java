/** The example of README.md, call by call. */
public final class ReadmeTest {
    private static final Checks CHECKS = new Checks();

    public static void main(String[] args) {
        CHECKS.sentence("README.md, the example");
        SortSuite suite = new SortSuite();
        CHECKS.due("append(5, -1, 6)", suite.append(5, -1, 6), 6);
        CHECKS.due("repeat(2, true)", suite.repeat(2, true), 8);
        CHECKS.dueList("after repeat", suite, 5, 4, 3, 2, 1, 0, -5, -4);
        CHECKS.due("change(7, 5)", suite.change(7, 5), -4);
        CHECKS.due("turn(0, 1)", suite.turn(0, 1), true);
        CHECKS.dueList("after turn", suite, 4, 5, 3, 2, 1, 0, -5, 5);
        CHECKS.due("sorted(3, 0)", suite.sorted(3, 0), -5);
        CHECKS.due("place(3, 0)", suite.place(3, 0), 6);
        CHECKS.due("place(3, 6)", suite.place(3, 6), 1);
        CHECKS.due("agree(4, 5)", suite.agree(4, 5), true);
        CHECKS.due("select(2)", suite.select(2), 1);
        CHECKS.due("inversions()", suite.inversions(), 20);
        CHECKS.due("exchanges()", suite.exchanges(), 4);
        CHECKS.due("growing()", suite.growing(), 2);
        CHECKS.due("find(3)", suite.find(3), 4);
        // The 2 and the last 5 stay.
        CHECKS.due("sort(7)", suite.sort(7), 6);
        CHECKS.dueList("after sort", suite, -5, 0, 1, 2, 3, 4, 5, 5);
        CHECKS.due("remove(0)", suite.remove(0), -5);
        CHECKS.dueList("after remove", suite, 0, 1, 2, 3, 4, 5, 5);
        CHECKS.due("at(7)", suite.at(7), SortSuite.BAD);
        CHECKS.due("append(1, 1, 34)", suite.append(1, 1, 34), SortSuite.FULL);
        CHECKS.due("size()", suite.size(), 7);
        CHECKS.end();
    }
}
