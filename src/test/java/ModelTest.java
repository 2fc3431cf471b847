/** All promises together: long runs of calls, fixed by their number, on the program and on the model. */
public final class ModelTest {
    private static final Checks CHECKS = new Checks();
    private static final int RUNS = 400;
    // With the look at the whole list at the end, which takes up to 42 more, 512: nothing is due after that.
    private static final int CALLS = 470;

    private final SortSuite suite = new SortSuite();
    private final Model model = new Model();
    private final int run;
    // Runs stay about different sizes: left alone, nearly all of them would soon be full.
    private final int aim;
    private long state;

    private ModelTest(int run) {
        this.run = run;
        this.aim = run % (Checks.CAPACITY + 1);
        this.state = run * 7919L + 1;
    }

    public static void main(String[] args) {
        for (int run = 0; run < RUNS; run++) {
            ModelTest test = new ModelTest(run);
            for (int call = 0; call < CALLS; call++) {
                test.oneCall();
            }
            CHECKS.dueList("at the end of run " + run, test.suite, test.model.numbers());
        }
        CHECKS.end();
    }

    /** A number of low .. high out of a fixed row, the same in every run of this test. */
    private int pick(int low, int high) {
        state = state * 6364136223846793005L + 1442695040888963407L;
        return low + (int) ((state >>> 33) % (high - low + 1));
    }

    private int mostly(int ordinary) {
        return pick(0, 49) == 0 ? Checks.EXTREMES[pick(0, 3)] : ordinary;
    }

    private int pickPlace() {
        return mostly(pick(0, 9) == 0 ? pick(-2, 42) : pick(-1, model.size()));
    }

    /** Often few kinds of numbers, so that there are equal ones. */
    private int pickNumber() {
        int kind = pick(0, 9);
        return mostly(kind == 0 ? pick(-101, 101) : kind < 6 ? pick(-3, 3) : pick(-99, 99));
    }

    private int pickEngine() {
        return mostly(pick(0, 19) == 0 ? pick(-2, 13) : pick(0, 11));
    }

    private int pickLength() {
        return mostly(pick(0, 29) == 0 ? pick(-1, 42) : pick(1, 6));
    }

    private void oneCall() {
        if (model.size() > aim && pick(0, 2) == 0) {
            int place = pick(0, model.size() - 1);
            CHECKS.due("remove(" + place + ") in run " + run, suite.remove(place), model.remove(place));
            return;
        }
        int i = pickPlace();
        int j = pickPlace();
        int v = pickNumber();
        int engine = pickEngine();
        int other = pickEngine();
        int n = pickLength();
        int step = mostly(pick(0, 9) == 0 ? pick(-101, 101) : pick(-9, 9));
        boolean turned = pick(0, 1) == 1;
        String with = " in run " + run + " with i=" + i + " j=" + j + " v=" + v + " engine=" + engine
            + " other=" + other + " n=" + n + " step=" + step + " turned=" + turned;
        switch (pick(0, 18)) {
            case 0: case 1: CHECKS.due("append" + with, suite.append(v, step, n), model.append(v, step, n)); break;
            case 2: CHECKS.due("repeat" + with, suite.repeat(n, turned), model.repeat(n, turned)); break;
            case 3: CHECKS.due("change" + with, suite.change(i, v), model.change(i, v)); break;
            case 4: CHECKS.due("turn" + with, suite.turn(i, j), model.turn(i, j)); break;
            case 5: case 6: case 7: CHECKS.due("remove" + with, suite.remove(i), model.remove(i)); break;
            case 8: CHECKS.due("at" + with, suite.at(i), model.at(i)); break;
            case 9: CHECKS.due("size" + with, suite.size(), model.size()); break;
            case 10: CHECKS.due("sorted" + with, suite.sorted(engine, i), model.sorted(engine, i)); break;
            case 11: CHECKS.due("place" + with, suite.place(engine, i), model.place(engine, i)); break;
            case 12: CHECKS.due("agree" + with, suite.agree(engine, other), model.agree(engine, other)); break;
            case 13: sortNowAndThen(engine, with); break;
            case 14: CHECKS.due("select" + with, suite.select(i), model.select(i)); break;
            case 15: CHECKS.due("inversions" + with, suite.inversions(), model.inversions()); break;
            case 16: CHECKS.due("exchanges" + with, suite.exchanges(), model.exchanges()); break;
            case 17: CHECKS.due("growing" + with, suite.growing(), model.growing()); break;
            default: CHECKS.due("find" + with, suite.find(v), model.find(v)); break;
        }
    }

    /** Seldom, for a sorted list asks little of the other calls. */
    private void sortNowAndThen(int engine, String with) {
        if (pick(0, 3) == 0) {
            CHECKS.due("sort" + with, suite.sort(engine), model.sort(engine));
        }
    }
}
