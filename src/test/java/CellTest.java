/** Promise 8. */
public final class CellTest {
    public static void main(String[] args) {
        Check check = new Check();
        TraceDebugger d = Programs.countdown(2);
        for (int t = 10; t >= 0; t--) {
            d.goTo(t);
            String there = " at time " + t;
            check.due("cell(0)" + there, d.cell(0), 0);
            check.due("cell(1)" + there, d.cell(1), t >= 6 ? 1 : 0);
            check.due("cell(2)" + there, d.cell(2), t >= 2 ? 1 : 0);
            check.due("cell(3)" + there, d.cell(3), 0);
        }

        TraceDebugger all = new TraceDebugger();
        all.emit(TraceDebugger.SET, 0, 1, 0);
        all.emit(TraceDebugger.SET, 1, 100, 0);
        all.emit(TraceDebugger.ADD, 1, 1, 0);
        all.emit(TraceDebugger.PUT, 1, 5, 0);
        all.emit(TraceDebugger.SUB, 5, 5, 0);
        all.emit(TraceDebugger.IFPOS, 5, 2, 0);
        all.emit(TraceDebugger.PUT, 0, 5, 0);
        int steps = all.input(7);
        all.goTo(steps);
        check.due("cell(0) of all", all.cell(0), 1);
        for (int c = 1; c < 8; c++) {
            check.due("cell(" + c + ") of all", all.cell(c), 108 - c);
        }
        all.goTo(steps - 1);
        for (int c : new int[] {-1, 8, 9, -6, -8, Integer.MIN_VALUE, Integer.MAX_VALUE}) {
            check.due("cell(" + c + ")", all.cell(c), 0);
        }
        check.end();
    }
}
