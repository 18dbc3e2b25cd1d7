/** Promise 2. */
public final class EmitTest {
    private static final int[] OUTSIDE_VARIABLES = {-1, 6, Programs.SMALLEST, Programs.LARGEST};
    private static final int[] OUTSIDE_INSTRUCTIONS = {-1, 20, Programs.SMALLEST, Programs.LARGEST};
    private static final int[] ANYTHING = {0, -1, 6, 20, Programs.SMALLEST, Programs.LARGEST};

    private static final Check check = new Check();

    public static void main(String[] args) {
        addsAtTheEnd();
        fullAfterTwenty();
        fullIsTestedFirst();
        opsOutside();
        opsAtTheEdges();
        firstOperandIsAVariable();
        secondOperandIsAVariable();
        thirdOperandIsAVariable();
        targetOfIfPositive();
        targetOfGoTo();
        numberOfSet();
        operandsThatPlayNoPart();
        goesToTimeZero();
        theNewProgramIsExecuted();
        check.end();
    }

    /** "Adds an instruction at the end ... the new number of instructions is answered." */
    private static void addsAtTheEnd() {
        TraceDebugger d = new TraceDebugger();
        for (int n = 1; n <= 20; n++) {
            check.due("emit, number " + n, Programs.emit(d, "SET 0 " + n), n);
            check.due("steps() of " + n, d.steps(), n);
            check.due("goTo(" + n + ")", d.goTo(n), n);
            check.due("variable(0) of " + n, d.variable(0), n);
        }
    }

    /** "20 instructions are there: FULL." */
    private static void fullAfterTwenty() {
        check.due("emit, number 20", Programs.emit(Programs.times(19, "SET 0 1"), "HALT"), 20);
        check.refused("emit, number 21", () -> Programs.at(20, Programs.full()), d -> Programs.emit(d, "HALT"),
            TraceDebugger.FULL);
        TraceDebugger d = Programs.full();
        Programs.emit(d, "HALT");
        check.due("emit, number 21 again", Programs.emit(d, "HALT"), TraceDebugger.FULL);
        check.due("steps() after them", d.steps(), 20);
    }

    /** "Tested in this order": of a full program nothing else is looked at. */
    private static void fullIsTestedFirst() {
        full(9, 0, 0, 0);
        full(-1, 0, 0, 0);
        for (int op = TraceDebugger.SET; op <= TraceDebugger.GOTO; op++) {
            full(op, 20, 20, 20);
            full(op, -1, -1, -1);
        }
    }

    /** "op outside 0..8: BAD." */
    private static void opsOutside() {
        for (int op : new int[] {-1, 9, 10, Programs.SMALLEST, Programs.LARGEST}) {
            bad(op, 0, 0, 0);
        }
    }

    private static void opsAtTheEdges() {
        for (int op = 0; op <= 8; op++) {
            good(op, 0, 0, 0);
            good(op, 5, 5, 5);
        }
    }

    /** "For all but GOTO and HALT: x outside 0..5: BAD." */
    private static void firstOperandIsAVariable() {
        for (int op = TraceDebugger.SET; op <= TraceDebugger.IFPOS; op++) {
            good(op, 0, 3, 3);
            good(op, 5, 3, 3);
            for (int x : OUTSIDE_VARIABLES) {
                bad(op, x, 3, 3);
            }
        }
    }

    /** "ADD, SUB, MUL, FETCH, PUT: y outside 0..5 ...: BAD." */
    private static void secondOperandIsAVariable() {
        for (int op = TraceDebugger.ADD; op <= TraceDebugger.PUT; op++) {
            good(op, 3, 0, 3);
            good(op, 3, 5, 3);
            for (int y : OUTSIDE_VARIABLES) {
                bad(op, 3, y, 3);
            }
        }
    }

    /** "ADD, SUB, MUL: z outside 0..5 ...: BAD." */
    private static void thirdOperandIsAVariable() {
        for (int op = TraceDebugger.ADD; op <= TraceDebugger.MUL; op++) {
            good(op, 3, 3, 0);
            good(op, 3, 3, 5);
            for (int z : OUTSIDE_VARIABLES) {
                bad(op, 3, 3, z);
            }
        }
    }

    /** "IFPOS: y (t) outside 0..19 ...: BAD." */
    private static void targetOfIfPositive() {
        for (int t = 0; t <= 19; t++) {
            good(TraceDebugger.IFPOS, 3, t, 3);
        }
        for (int t : OUTSIDE_INSTRUCTIONS) {
            bad(TraceDebugger.IFPOS, 3, t, 3);
        }
    }

    /** "GOTO: x (t) outside 0..19: BAD." */
    private static void targetOfGoTo() {
        for (int t = 0; t <= 19; t++) {
            good(TraceDebugger.GOTO, t, 3, 3);
        }
        for (int t : OUTSIDE_INSTRUCTIONS) {
            bad(TraceDebugger.GOTO, t, 3, 3);
        }
    }

    /** "n is y": any number will do. */
    private static void numberOfSet() {
        for (int n : ANYTHING) {
            TraceDebugger d = new TraceDebugger();
            check.due("emit(SET, 0, " + n + ", 3)", d.emit(TraceDebugger.SET, 0, n, 3), 1);
            d.goTo(1);
            check.due("variable(0), SET to " + n, d.variable(0), n);
        }
    }

    /** No sentence tests them. */
    private static void operandsThatPlayNoPart() {
        for (int o : ANYTHING) {
            good(TraceDebugger.SET, 0, o, o);
            good(TraceDebugger.FETCH, 0, 0, o);
            good(TraceDebugger.PUT, 0, 0, o);
            good(TraceDebugger.IFPOS, 0, 0, o);
            good(TraceDebugger.GOTO, 0, o, o);
            good(TraceDebugger.HALT, o, o, o);
        }
    }

    /** "Else the debugger is at time 0 of the new program's execution" */
    private static void goesToTimeZero() {
        TraceDebugger d = Programs.countdownAt(7);
        check.due("emit at time 7", Programs.emit(d, "HALT"), 7);
        check.due("time() after it", d.time(), 0);
        check.due("variable(0) after it", d.variable(0), 0);
        check.due("variable(5), the input stays", d.variable(5), 2);
        check.due("cell(2) after it", d.cell(2), 0);
        check.due("lastWrite(0, 1) after it", d.lastWrite(0, 1), 0);
        check.due("steps() after it", d.steps(), 10);
    }

    /** A jump beyond the end ends the execution only until the instruction it names is there. */
    private static void theNewProgramIsExecuted() {
        TraceDebugger d = new TraceDebugger();
        Programs.emit(d, "GOTO 2");
        check.due("steps() of GOTO 2 alone", d.steps(), 1);
        Programs.emit(d, "HALT");
        check.due("steps() with an instruction 1", d.steps(), 1);
        Programs.emit(d, "SET 3 33");
        check.due("steps() with an instruction 2", d.steps(), 2);
        check.due("goTo(2)", d.goTo(2), 3);
        check.due("variable(3)", d.variable(3), 33);
    }

    private static void good(int op, int x, int y, int z) {
        check.due(text(op, x, y, z), Programs.countdownAt(7).emit(op, x, y, z), 7);
    }

    private static void bad(int op, int x, int y, int z) {
        check.refused(text(op, x, y, z), () -> Programs.countdownAt(7), d -> d.emit(op, x, y, z),
            TraceDebugger.BAD);
        check.due("the first, " + text(op, x, y, z), new TraceDebugger().emit(op, x, y, z), TraceDebugger.BAD);
        check.due("the last, " + text(op, x, y, z), Programs.times(19, "HALT").emit(op, x, y, z),
            TraceDebugger.BAD);
    }

    private static void full(int op, int x, int y, int z) {
        check.due("when full, " + text(op, x, y, z), Programs.full().emit(op, x, y, z), TraceDebugger.FULL);
    }

    private static String text(int op, int x, int y, int z) {
        return "emit(" + op + ", " + x + ", " + y + ", " + z + ")";
    }
}
