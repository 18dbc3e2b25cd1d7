/** Promise 7. */
public final class VariableTest {
    public static void main(String[] args) {
        Check check = new Check();
        int[] sum = {0, 0, 0, 2, 2, 2, 2, 3, 3, 3, 3};
        int[] count = {2, 2, 2, 2, 1, 1, 1, 1, 0, 0, 0};
        TraceDebugger d = Programs.countdown(2);
        for (int t = 10; t >= 0; t--) {
            d.goTo(t);
            String there = " at time " + t;
            check.due("variable(0)" + there, d.variable(0), t == 0 ? 0 : 1);
            check.due("variable(1)" + there, d.variable(1), sum[t]);
            check.due("variable(2)" + there, d.variable(2), 0);
            check.due("variable(5)" + there, d.variable(5), count[t]);
        }

        TraceDebugger all = new TraceDebugger();
        for (int v = 0; v < 6; v++) {
            all.emit(TraceDebugger.SET, v, 10 + v, 0);
        }
        all.emit(TraceDebugger.SET, 0, 0, 0);
        for (int i = 0; i < 8; i++) {
            all.emit(TraceDebugger.PUT, 5, 0, 0);
        }
        all.goTo(15);
        for (int v = 1; v < 6; v++) {
            check.due("variable(" + v + ") of all", all.variable(v), 10 + v);
        }
        for (int v : new int[] {-1, 6, 7, -6, 14, Integer.MIN_VALUE, Integer.MAX_VALUE}) {
            check.due("variable(" + v + ")", all.variable(v), 0);
        }
        all.goTo(14);
        check.due("variable(-14)", all.variable(-14), 0);
        check.end();
    }
}
