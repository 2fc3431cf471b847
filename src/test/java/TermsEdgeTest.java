import java.util.function.ToLongFunction;

/** The edges named outside the promises: how many calls, the two constants, and the document's terms. */
public final class TermsEdgeTest {
    private static final Checks CHECKS = new Checks();
    private static final int BAD = SortSuite.BAD;
    private static final int FULL = SortSuite.FULL;
    private static final int CALLS = 512;

    /** One call, on the program and on the model. */
    private record Call(String name, ToLongFunction<SortSuite> suite, ToLongFunction<Model> model) { }

    private static final Call[] EACH_METHOD = {
        new Call("append(-3, 1, 2)", s -> s.append(-3, 1, 2), m -> m.append(-3, 1, 2)),
        new Call("repeat(1, true)", s -> s.repeat(1, true), m -> m.repeat(1, true)),
        new Call("change(1, 50)", s -> s.change(1, 50), m -> m.change(1, 50)),
        new Call("turn(0, 1)", s -> number(s.turn(0, 1)), m -> number(m.turn(0, 1))),
        new Call("remove(0)", s -> s.remove(0), m -> m.remove(0)),
        new Call("at(1)", s -> s.at(1), m -> m.at(1)),
        new Call("size()", s -> s.size(), m -> m.size()),
        new Call("sorted(5, 1)", s -> s.sorted(5, 1), m -> m.sorted(5, 1)),
        new Call("place(10, 1)", s -> s.place(10, 1), m -> m.place(10, 1)),
        new Call("agree(0, 11)", s -> number(s.agree(0, 11)), m -> number(m.agree(0, 11))),
        new Call("sort(8)", s -> s.sort(8), m -> m.sort(8)),
        new Call("select(1)", s -> s.select(1), m -> m.select(1)),
        new Call("inversions()", s -> s.inversions(), m -> m.inversions()),
        new Call("exchanges()", s -> s.exchanges(), m -> m.exchanges()),
        new Call("growing()", s -> s.growing(), m -> m.growing()),
        new Call("find(2)", s -> s.find(2), m -> m.find(2))
    };

    public static void main(String[] args) {
        servesFor512Calls();
        laterCallsComeBack();
        constants();
        atMost40Numbers();
        numbersFromTheirLeastToTheirGreatest();
        placesFrom0();
        emptyAtFirst();
        numbersDoNotFall();
        equalOnesInTheirOwnOrder();
        enginesFrom0To11();
        noAnswerDependsOnTheEngine();
        CHECKS.end();
    }

    private static long number(boolean answer) {
        return answer ? 1 : 0;
    }

    private static void servesFor512Calls() {
        CHECKS.sentence("What it is: used for at most 512 calls");
        for (Call call : EACH_METHOD) {
            serves(call, new int[0]);
            serves(call, Checks.mixed(39));
            serves(call, Checks.fewKinds(40));
        }
        for (int last = 0; last < EACH_METHOD.length; last++) {
            servesInTurn(last);
        }
    }

    /** The same call until the 512th, those that make the list counted, too. */
    private static void serves(Call call, int[] list) {
        SortSuite suite = Checks.listOf(list);
        Model model = modelOf(list);
        for (int made = list.length + 1; made <= CALLS; made++) {
            dueAsModel("call " + made + ", ", call, suite, model);
        }
    }

    /** All methods in turn, so that each of them is once the 512th call. */
    private static void servesInTurn(int last) {
        SortSuite suite = new SortSuite();
        Model model = new Model();
        for (int made = 1; made <= CALLS; made++) {
            Call call = EACH_METHOD[(CALLS - made + last) % EACH_METHOD.length];
            dueAsModel("call " + made + " in turn, ", call, suite, model);
        }
    }

    private static void dueAsModel(String when, Call call, SortSuite suite, Model model) {
        CHECKS.dueAnswer(when + call.name, call.suite, suite, call.model.applyAsLong(model));
    }

    private static Model modelOf(int[] list) {
        Model model = new Model();
        for (int number : list) {
            model.append(number, 0, 1);
        }
        return model;
    }

    private static void laterCallsComeBack() {
        CHECKS.sentence("What it is: what later calls answer is free, but LANGUAGE.md, 7, lets none throw");
        SortSuite suite = new SortSuite();
        for (int made = 0; made < 100 * CALLS; made++) {
            Call call = EACH_METHOD[made % EACH_METHOD.length];
            CHECKS.dueAnswer(call.name, anyAnswer(call), suite, 0);
        }
    }

    private static ToLongFunction<SortSuite> anyAnswer(Call call) {
        return suite -> 0 * call.suite.applyAsLong(suite);
    }

    private static void constants() {
        CHECKS.sentence("The public face: BAD = -1000");
        CHECKS.due("BAD", SortSuite.BAD, -1000);
        CHECKS.due("at(0) of an empty list", new SortSuite().at(0), -1000);
        CHECKS.sentence("The public face: FULL = -2000");
        CHECKS.due("FULL", SortSuite.FULL, -2000);
        CHECKS.due("append(0, 0, 1) to 40", Checks.listOf(Checks.mixed(40)).append(0, 0, 1), -2000);
    }

    private static void atMost40Numbers() {
        CHECKS.sentence("Terms: the list has at most 40 numbers");
        SortSuite single = new SortSuite();
        for (int size = 1; size <= 40; size++) {
            CHECKS.due("append of one, now " + size, single.append(size, 0, 1), size);
        }
        CHECKS.due("append of a 41st", single.append(41, 0, 1), FULL);
        CHECKS.dueList("after 41 appends", single, Checks.row(1, 1, 40));
        SortSuite atOnce = new SortSuite();
        CHECKS.due("append of 40 at once", atOnce.append(1, 1, 40), 40);
        CHECKS.due("repeat of a 41st", atOnce.repeat(1, false), FULL);
        CHECKS.dueList("after append of 40", atOnce, Checks.row(1, 1, 40));
        SortSuite doubled = Checks.listOf(Checks.row(1, 1, 20));
        CHECKS.due("repeat of 20", doubled.repeat(20, false), 40);
        CHECKS.due("append of a 41st behind these", doubled.append(41, 0, 1), FULL);
        CHECKS.dueList("after repeat of 20", doubled, Checks.joined(Checks.row(1, 1, 20), Checks.row(1, 1, 20)));
    }

    private static void numbersFromTheirLeastToTheirGreatest() {
        CHECKS.sentence("Terms: numbers -99 .. 99");
        for (int v = -300; v <= 300; v++) {
            int number = v;
            String append = "append(" + v + ", 0, 1)";
            String change = "change(0, " + v + ")";
            if (v >= -99 && v <= 99) {
                CHECKS.dueTaken(append, s -> s.append(number, 0, 1), 2, new int[] {8}, 8, number);
                CHECKS.dueTaken(change, s -> s.change(0, number), 8, new int[] {8}, number);
                CHECKS.dueTaken("repeat(1, true)", s -> s.repeat(1, true), 2, new int[] {number}, number, -number);
            } else {
                CHECKS.dueUnchanged(append, s -> s.append(number, 0, 1), BAD, 8);
                CHECKS.dueUnchanged(change, s -> s.change(0, number), BAD, 8);
            }
        }
    }

    private static void placesFrom0() {
        CHECKS.sentence("Terms: at the places 0, 1, ..");
        for (int size = 0; size <= 40; size++) {
            int[] list = Checks.mixed(size);
            SortSuite suite = Checks.listOf(list);
            for (int i = -3; i <= 43; i++) {
                CHECKS.due("at(" + i + ") of " + size, suite.at(i), i >= 0 && i < size ? list[i] : BAD);
            }
        }
    }

    private static void emptyAtFirst() {
        CHECKS.sentence("Terms: the list is empty at first");
        CHECKS.dueUnchanged("size()", s -> s.size(), 0);
        CHECKS.dueTaken("append(5, 0, 1)", s -> s.append(5, 0, 1), 1, new int[0], 5);
    }

    private static void numbersDoNotFall() {
        CHECKS.sentence("Terms: the sorted order's numbers do not fall");
        for (int engine = 0; engine < Checks.ENGINES; engine++) {
            // Their differences do not fit in a byte, and their signs differ.
            dueOrder(engine, new int[] {99, -99}, 1, 0);
            dueOrder(engine, new int[] {0, 99, -99, -1, 1}, 2, 3, 0, 4, 1);
            dueOrder(engine, Checks.falling(40), Checks.row(39, -1, 40));
            dueOrder(engine, Checks.rising(40), Checks.row(0, 1, 40));
        }
    }

    private static void equalOnesInTheirOwnOrder() {
        CHECKS.sentence("Terms: places with the same number in their own order");
        for (int engine = 0; engine < Checks.ENGINES; engine++) {
            dueOrder(engine, new int[] {3, 3}, 0, 1);
            dueOrder(engine, new int[] {99, -99, 99, -99, 99}, 1, 3, 0, 2, 4);
            dueOrder(engine, Checks.row(-99, 0, 40), Checks.row(0, 1, 40));
            dueOrder(engine, Checks.row(99, 0, 40), Checks.row(0, 1, 40));
            dueOrder(engine, Checks.joined(Checks.equal(20), Checks.row(-8, 0, 20)),
                Checks.joined(Checks.row(20, 1, 20), Checks.row(0, 1, 20)));
        }
    }

    private static void dueOrder(int engine, int[] list, int... places) {
        SortSuite suite = Checks.listOf(list);
        for (int k = 0; k < places.length; k++) {
            String call = "(" + engine + ", " + k + ") of " + java.util.Arrays.toString(list);
            CHECKS.due("place" + call, suite.place(engine, k), places[k]);
            CHECKS.due("sorted" + call, suite.sorted(engine, k), list[places[k]]);
        }
    }

    private static void enginesFrom0To11() {
        CHECKS.sentence("Terms: an engine is a number 0 .. 11");
        for (int number = -300; number <= 300; number++) {
            dueEngine(number, number >= 0 && number <= 11);
        }
        for (int extreme : Checks.EXTREMES) {
            dueEngine(extreme, false);
        }
    }

    private static void dueEngine(int number, boolean engine) {
        int[] list = {6, 5};
        String call = "(" + number + ", ..)";
        CHECKS.dueUnchanged("sorted" + call, s -> s.sorted(number, 0), engine ? 5 : BAD, list);
        CHECKS.dueUnchanged("place" + call, s -> s.place(number, 0), engine ? 1 : BAD, list);
        CHECKS.dueUnchanged("agree" + call, s -> number(s.agree(number, 0)), number(engine), list);
        CHECKS.dueUnchanged("agree(0, " + number + ")", s -> number(s.agree(0, number)), number(engine), list);
        int[] after = engine ? new int[] {5, 6} : list;
        CHECKS.dueTaken("sort(" + number + ")", s -> s.sort(number), engine ? 2 : BAD, list, after);
    }

    private static void noAnswerDependsOnTheEngine() {
        CHECKS.sentence("Terms: no answer depends on the engine");
        for (int size : new int[] {0, 1, 2, 3, 39, 40}) {
            sameByEachEngine(Checks.rising(size));
            sameByEachEngine(Checks.falling(size));
            sameByEachEngine(Checks.equal(size));
            sameByEachEngine(Checks.mixed(size));
            sameByEachEngine(Checks.fewKinds(size));
        }
    }

    private static void sameByEachEngine(int[] list) {
        int[] places = Model.order(list);
        int moved = modelOf(list).sort(0);
        for (int engine = 0; engine < Checks.ENGINES; engine++) {
            dueOrder(engine, list, places);
            SortSuite suite = Checks.listOf(list);
            for (int other = 0; other < Checks.ENGINES; other++) {
                CHECKS.due("agree(" + engine + ", " + other + ")", suite.agree(engine, other), true);
            }
            CHECKS.due("sort(" + engine + ") of " + java.util.Arrays.toString(list), suite.sort(engine), moved);
        }
    }
}
