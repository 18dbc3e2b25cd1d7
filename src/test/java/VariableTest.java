/** Promise 7. */
public final class VariableTest {
    private static final Check check = new Check();

    public static void main(String[] args) {
        everyTime();
        theFirstAndTheLastVariable();
        outsideIsZero();
        check.end();
    }

    /** "A variable's value in the state at this time" */
    private static void everyTime() {
        int[] sum = {0, 0, 0, 2, 2, 2, 2, 3, 3, 3, 3};
        int[] count = {2, 2, 2, 2, 1, 1, 1, 1, 0, 0, 0};
        TraceDebugger d = Programs.countdown(2);
        for (int t = 10; t >= 0; t--) {
            d.goTo(t);
            String there = " at time " + t;
            check.due("variable(0)" + there, d.variable(0), t == 0 ? 0 : 1);
            check.due("variable(1)" + there, d.variable(1), sum[t]);
            check.due("variable(2)" + there, d.variable(2), 0);
            check.due("variable(5)" + there, d.variable(5), count[t]);
        }
    }

    private static void theFirstAndTheLastVariable() {
        for (int v = 0; v <= 5; v++) {
            check.due("variable(" + v + ")", Programs.filled().variable(v), 20 + v);
        }
    }

    /** "0 for v outside 0..5": also where nothing around it is 0. */
    private static void outsideIsZero() {
        for (int v : new int[] {-1, 6, 7, 13, 14, -6, -8, -14, Programs.SMALLEST, Programs.LARGEST}) {
            for (int t = 30; t <= 36; t++) {
                check.refused("variable(" + v + ") at time " + t, Programs.filledAt(t), d -> d.variable(v), 0);
            }
            check.due("variable(" + v + ") of a new object", new TraceDebugger().variable(v), 0);
        }
    }
}
