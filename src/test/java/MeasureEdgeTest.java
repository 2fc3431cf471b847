/** The edges of promises 14 to 17: the empty list, one number, equal ones, the full list, and any v at all. */
public final class MeasureEdgeTest {
    private static final Checks CHECKS = new Checks();
    private static final int[] EMPTY = {};
    private static final int[] ONE = {-99};
    /** The greatest first and the others in order: every number is one place from its own. */
    private static final int[] ROUND = Checks.joined(new int[] {99}, Checks.row(0, 1, 39));

    public static void main(String[] args) {
        inversionsNone();
        inversionsOfEqualOnes();
        inversionsAll();
        exchangesNone();
        exchangesMost();
        exchangesAmongEqualOnes();
        growingNone();
        growingAll();
        growingNotAmongEqualOnes();
        findWhereItBegins();
        findWhereItWouldBegin();
        findInTheEmptyList();
        findAnyNumber();
        CHECKS.end();
    }

    private static void dueInversions(int answer, int... list) {
        CHECKS.dueUnchanged("inversions()", s -> s.inversions(), answer, list);
    }

    private static void inversionsNone() {
        CHECKS.sentence("14: pairs of places i < j, of which no number and one have none");
        dueInversions(0, EMPTY);
        dueInversions(0, ONE);
        dueInversions(0, -99, 99);
        dueInversions(0, Checks.rising(40));
    }

    private static void inversionsOfEqualOnes() {
        CHECKS.sentence("14: greater, which equal ones are not");
        dueInversions(0, 4, 4);
        dueInversions(0, Checks.equal(40));
        dueInversions(1, 4, 3);
        dueInversions(39, Checks.joined(Checks.equal(39), -8));
        dueInversions(0, Checks.joined(Checks.equal(39), -6));
    }

    private static void inversionsAll() {
        CHECKS.sentence("14: all pairs of places, the first and the last, too");
        dueInversions(1, 99, -99);
        dueInversions(3, 99, 0, -99);
        dueInversions(780, Checks.falling(40));
        dueInversions(741, Checks.falling(39));
        dueInversions(39, ROUND);
        dueInversions(400, Checks.joined(Checks.row(1, 0, 20), Checks.row(0, 0, 20)));
    }

    private static void dueExchanges(int answer, int... list) {
        CHECKS.dueUnchanged("exchanges()", s -> s.exchanges(), answer, list);
    }

    private static void exchangesNone() {
        CHECKS.sentence("15: the least number of exchanges, none when every number is at its place");
        dueExchanges(0, EMPTY);
        dueExchanges(0, ONE);
        dueExchanges(0, -99, 99);
        dueExchanges(0, Checks.rising(40));
        dueExchanges(0, Checks.equal(40));
    }

    private static void exchangesMost() {
        CHECKS.sentence("15: the least number of exchanges, one for each number but one at most");
        dueExchanges(1, 99, -99);
        dueExchanges(1, 99, 0, -99);
        dueExchanges(19, Checks.falling(39));
        dueExchanges(20, Checks.falling(40));
        dueExchanges(39, ROUND);
        dueExchanges(39, Checks.joined(Checks.row(1, 1, 39), -99));
        dueExchanges(1, Checks.joined(Checks.joined(new int[] {99}, Checks.row(0, 1, 38)), -99));
    }

    private static void exchangesAmongEqualOnes() {
        CHECKS.sentence("15: equal ones to their own, too");
        dueExchanges(0, 4, 4);
        // One exchange would put the numbers in order, but each 2 at the other's place.
        dueExchanges(2, 2, 2, 1);
        dueExchanges(39, Checks.joined(Checks.equal(39), -8));
        dueExchanges(20, Checks.joined(Checks.row(1, 0, 20), Checks.row(0, 0, 20)));
    }

    private static void dueGrowing(int answer, int... list) {
        CHECKS.dueUnchanged("growing()", s -> s.growing(), answer, list);
    }

    private static void growingNone() {
        CHECKS.sentence("16: the greatest number of places, none of none and one of one");
        dueGrowing(0, EMPTY);
        dueGrowing(1, ONE);
        dueGrowing(1, 99);
        dueGrowing(1, 99, -99);
        dueGrowing(1, Checks.falling(40));
    }

    private static void growingAll() {
        CHECKS.sentence("16: each behind the one before it, up to all 40");
        dueGrowing(2, -99, 99);
        dueGrowing(40, Checks.rising(40));
        dueGrowing(39, Checks.rising(39));
        dueGrowing(39, ROUND);
        dueGrowing(39, Checks.joined(Checks.row(1, 1, 39), -99));
        dueGrowing(2, Checks.joined(Checks.falling(39), 99));
        CHECKS.sentence("16: each behind the one before it, with others between");
        dueGrowing(3, 0, 9, 1, 8, 2);
        dueGrowing(2, -99, -99, 99);
    }

    private static void growingNotAmongEqualOnes() {
        CHECKS.sentence("16: numbers grow from one to the next, which equal ones do not");
        dueGrowing(1, 4, 4);
        dueGrowing(1, Checks.equal(40));
        dueGrowing(2, Checks.joined(Checks.equal(39), -6));
        dueGrowing(1, Checks.joined(Checks.equal(39), -8));
        dueGrowing(2, 1, 1, 2, 2);
    }

    private static void dueFind(int v, int answer, int... list) {
        CHECKS.dueUnchanged("find(" + v + ")", s -> s.find(v), answer, list);
    }

    private static void findWhereItBegins() {
        CHECKS.sentence("17: the place of the sorted order at which v begins");
        dueFind(-7, 0, Checks.equal(40));
        dueFind(4, 1, 4, 3, 4, 4);
        dueFind(3, 0, 4, 3, 4, 4);
        dueFind(-99, 0, 99, -99);
        dueFind(99, 1, 99, -99);
        dueFind(99, 39, Checks.falling(40));
        dueFind(-96, 0, Checks.falling(40));
        for (int k = 0; k < 40; k++) {
            dueFind(-99 + 5 * k, k, Checks.rising(40));
        }
    }

    private static void findWhereItWouldBegin() {
        CHECKS.sentence("17: or would begin if it is not there (0 to size())");
        dueFind(-8, 0, Checks.equal(40));
        dueFind(-6, 40, Checks.equal(40));
        dueFind(98, 1, 99, -99);
        dueFind(-98, 1, 99, -99);
        dueFind(97, 40, Checks.rising(40));
        dueFind(-98, 1, Checks.rising(40));
        for (int k = 0; k < 40; k++) {
            dueFind(-99 + 5 * k + 1, k + 1, Checks.rising(40));
            dueFind(-99 + 5 * k - 1, k, Checks.rising(40));
        }
    }

    private static void findInTheEmptyList() {
        CHECKS.sentence("17: 0 to size(), so 0 when the list is empty");
        for (int v : new int[] {-100, -99, 0, 99, 100}) {
            dueFind(v, 0, EMPTY);
        }
        for (int extreme : Checks.EXTREMES) {
            dueFind(extreme, 0, EMPTY);
        }
    }

    private static void findAnyNumber() {
        CHECKS.sentence("17: no v is refused");
        for (int size : new int[] {1, 2, 39, 40}) {
            int[] list = Checks.falling(size);
            for (int low : new int[] {-100, -101, -1000, Checks.LEAST, Checks.LEAST + 1}) {
                dueFind(low, 0, list);
            }
            for (int high : new int[] {100, 101, 1000, Checks.GREATEST - 1, Checks.GREATEST}) {
                dueFind(high, size, list);
            }
        }
        dueFind(-99, 0, Checks.row(-99, 0, 40));
        dueFind(-100, 0, Checks.row(-99, 0, 40));
        dueFind(99, 0, Checks.row(99, 0, 40));
        dueFind(100, 40, Checks.row(99, 0, 40));
    }
}
