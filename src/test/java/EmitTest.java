/** Promise 2. */
public final class EmitTest {
    private static final int[] OUTSIDE_VARIABLES = {-1, 6, Integer.MIN_VALUE, Integer.MAX_VALUE};
    private static final int[] OUTSIDE_INSTRUCTIONS = {-1, 20, Integer.MIN_VALUE, Integer.MAX_VALUE};
    private static final int[] ANYTHING = {0, -1, 6, 20, Integer.MIN_VALUE, Integer.MAX_VALUE};

    private static final Check check = new Check();

    public static void main(String[] args) {
        countsUpToTwenty();
        fullIsTestedFirst();
        unknownOps();
        operandsAtTheEdges();
        operandsOutside();
        operandsThatPlayNoPart();
        goesToTimeZero();
        laterInstructionsAreReached();
        check.end();
    }

    private static void countsUpToTwenty() {
        TraceDebugger d = new TraceDebugger();
        for (int n = 1; n <= 20; n++) {
            check.due("emit, number " + n, d.emit(TraceDebugger.SET, 0, n, 0), n);
            check.due("steps() of " + n, d.steps(), n);
        }
        check.due("emit, number 21", d.emit(TraceDebugger.SET, 0, 21, 0), TraceDebugger.FULL);
        check.due("steps() after it", d.steps(), 20);
    }

    private static void fullIsTestedFirst() {
        check.refused("emit(9) when full", Programs::full, d -> d.emit(9, 0, 0, 0), TraceDebugger.FULL);
        check.refused("emit(-1) when full", Programs::full, d -> d.emit(-1, 0, 0, 0), TraceDebugger.FULL);
        check.refused("emit(SET 6) when full", Programs::full, d -> d.emit(TraceDebugger.SET, 6, 0, 0),
            TraceDebugger.FULL);
        check.refused("emit(GOTO 20) when full", Programs::full, d -> d.emit(TraceDebugger.GOTO, 20, 0, 0),
            TraceDebugger.FULL);
    }

    private static void unknownOps() {
        for (int op : new int[] {-1, 9, Integer.MIN_VALUE, Integer.MAX_VALUE}) {
            bad(op, 0, 0, 0);
        }
    }

    private static void operandsAtTheEdges() {
        for (int op = TraceDebugger.SET; op <= TraceDebugger.HALT; op++) {
            good(op, 0, 0, 0);
            good(op, 5, 5, 5);
        }
        good(TraceDebugger.IFPOS, 5, 19, 0);
        good(TraceDebugger.GOTO, 19, 0, 0);
        good(TraceDebugger.SET, 0, Integer.MIN_VALUE, 0);
        good(TraceDebugger.SET, 0, Integer.MAX_VALUE, 0);
    }

    private static void operandsOutside() {
        for (int o : OUTSIDE_VARIABLES) {
            for (int op = TraceDebugger.SET; op <= TraceDebugger.IFPOS; op++) {
                bad(op, o, 0, 0);
            }
            for (int op = TraceDebugger.ADD; op <= TraceDebugger.PUT; op++) {
                bad(op, 0, o, 0);
            }
            for (int op = TraceDebugger.ADD; op <= TraceDebugger.MUL; op++) {
                bad(op, 0, 0, o);
            }
        }
        for (int o : OUTSIDE_INSTRUCTIONS) {
            bad(TraceDebugger.IFPOS, 0, o, 0);
            bad(TraceDebugger.GOTO, o, 0, 0);
        }
    }

    private static void operandsThatPlayNoPart() {
        for (int o : ANYTHING) {
            good(TraceDebugger.SET, 0, o, o);
            good(TraceDebugger.FETCH, 0, 0, o);
            good(TraceDebugger.PUT, 0, 0, o);
            good(TraceDebugger.IFPOS, 0, 0, o);
            good(TraceDebugger.GOTO, 0, o, o);
            good(TraceDebugger.HALT, o, o, o);
        }
    }

    private static void goesToTimeZero() {
        TraceDebugger d = Programs.countdownAt(7);
        check.due("emit at time 7", d.emit(TraceDebugger.HALT, 0, 0, 0), 7);
        check.due("time() after it", d.time(), 0);
        check.due("variable(0) after it", d.variable(0), 0);
        check.due("variable(5), the input stays", d.variable(5), 2);
        check.due("cell(2) after it", d.cell(2), 0);
        check.due("lastWrite(0, 1) after it", d.lastWrite(0, 1), 0);
        check.due("steps() after it", d.steps(), 10);
    }

    /** A jump beyond the end ends the execution only until the instruction it names is there. */
    private static void laterInstructionsAreReached() {
        TraceDebugger d = new TraceDebugger();
        d.emit(TraceDebugger.GOTO, 2, 0, 0);
        check.due("steps() of GOTO 2 alone", d.steps(), 1);
        d.emit(TraceDebugger.HALT, 0, 0, 0);
        check.due("steps() with an instruction 1", d.steps(), 1);
        d.emit(TraceDebugger.SET, 3, 33, 0);
        check.due("steps() with an instruction 2", d.steps(), 2);
        check.due("goTo(2)", d.goTo(2), 3);
        check.due("variable(3)", d.variable(3), 33);
    }

    private static void good(int op, int x, int y, int z) {
        check.due(text(op, x, y, z), Programs.countdownAt(7).emit(op, x, y, z), 7);
    }

    private static void bad(int op, int x, int y, int z) {
        check.refused(text(op, x, y, z), () -> Programs.countdownAt(7), d -> d.emit(op, x, y, z),
            TraceDebugger.BAD);
    }

    private static String text(int op, int x, int y, int z) {
        return "emit(" + op + ", " + x + ", " + y + ", " + z + ")";
    }
}
