/** The terms: what each instruction does. */
public final class InstructionsTest {
    private static final Check check = new Check();

    public static void main(String[] args) {
        int[] numbers = {0, 1, -1, 7, 8, -9, 65536, Integer.MAX_VALUE, Integer.MIN_VALUE};
        for (int a : numbers) {
            for (int b : numbers) {
                arithmetic(a, b);
            }
            cells(a);
            ifPositive(a);
        }
        readsComeBeforeTheWrite();
        check.end();
    }

    private static void arithmetic(int a, int b) {
        TraceDebugger d = new TraceDebugger();
        d.emit(TraceDebugger.SET, 0, a, 0);
        d.emit(TraceDebugger.SET, 1, b, 0);
        d.emit(TraceDebugger.ADD, 2, 0, 1);
        d.emit(TraceDebugger.SUB, 3, 0, 1);
        d.emit(TraceDebugger.MUL, 4, 0, 1);
        d.goTo(5);
        check.due("SET " + a, d.variable(0), a);
        check.due(a + " ADD " + b, d.variable(2), a + b);
        check.due(a + " SUB " + b, d.variable(3), a - b);
        check.due(a + " MUL " + b, d.variable(4), a * b);
    }

    private static void cells(int a) {
        TraceDebugger d = new TraceDebugger();
        d.emit(TraceDebugger.SET, 0, a, 0);
        d.emit(TraceDebugger.SET, 1, 77, 0);
        d.emit(TraceDebugger.PUT, 1, 0, 0);
        d.emit(TraceDebugger.FETCH, 2, 0, 0);
        d.emit(TraceDebugger.SET, 3, 1, 0);
        d.emit(TraceDebugger.ADD, 3, 3, 0);
        d.emit(TraceDebugger.FETCH, 4, 3, 0);
        d.goTo(7);
        for (int c = 0; c < 8; c++) {
            check.due("cell(" + c + ") after PUT to " + a, d.cell(c), c == (a & 7) ? 77 : 0);
        }
        check.due("FETCH from " + a, d.variable(2), 77);
        check.due("FETCH from the cell after " + a, d.variable(4), 0);
    }

    private static void ifPositive(int a) {
        TraceDebugger d = new TraceDebugger();
        d.emit(TraceDebugger.IFPOS, 5, 7, 0);
        d.input(a);
        check.due("next after IFPOS of " + a, d.goTo(1), a > 0 ? 7 : 1);
        check.due("variable(5) after IFPOS of " + a, d.variable(5), a);
    }

    private static void readsComeBeforeTheWrite() {
        TraceDebugger d = new TraceDebugger();
        d.emit(TraceDebugger.ADD, 5, 5, 5);
        d.emit(TraceDebugger.PUT, 5, 5, 0);
        d.emit(TraceDebugger.MUL, 5, 5, 5);
        d.emit(TraceDebugger.SET, 5, 14, 0);
        d.emit(TraceDebugger.FETCH, 5, 5, 0);
        d.emit(TraceDebugger.SUB, 5, 5, 5);
        d.input(3);
        int[] due = {3, 6, 6, 36, 14, 6, 0};
        for (int t = 0; t < due.length; t++) {
            d.goTo(t);
            check.due("variable(5) at time " + t, d.variable(5), due[t]);
        }
    }
}
