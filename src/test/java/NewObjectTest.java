/** Promise 1. */
public final class NewObjectTest {
    private static final Check check = new Check();

    public static void main(String[] args) {
        noInstructions();
        theInputIsZero();
        atTimeZeroOfNoSteps();
        nothingIsWrittenOrFound();
        objectsShareNothing();
        check.end();
    }

    /** "No instructions" */
    private static void noInstructions() {
        check.due("emit, the first", Programs.emit(new TraceDebugger(), "HALT"), 1);
        check.due("steps(), the instruction is the only one", Programs.of("GOTO 1").steps(), 1);
    }

    /** "the input is 0" */
    private static void theInputIsZero() {
        check.due("variable(5)", new TraceDebugger().variable(5), 0);
        check.due("variable(5) with a program", Programs.of("SET 5 3").variable(5), 0);
        check.due("IFPOS of the input", Programs.of("IFPOS 5 9").goTo(1), 1);
    }

    /** "the debugger is at time 0 of the execution, which has no steps" */
    private static void atTimeZeroOfNoSteps() {
        TraceDebugger d = new TraceDebugger();
        check.due("time()", d.time(), 0);
        check.due("steps()", d.steps(), 0);
        check.due("goTo(0)", d.goTo(0), 0);
        check.due("goTo(1)", d.goTo(1), TraceDebugger.BAD);
        check.due("goTo(-1)", d.goTo(-1), TraceDebugger.BAD);
    }

    private static void nothingIsWrittenOrFound() {
        TraceDebugger d = new TraceDebugger();
        for (int v = 0; v <= 5; v++) {
            check.due("variable(" + v + ")", d.variable(v), 0);
            check.due("lastWrite(0, " + v + ")", d.lastWrite(0, v), 0);
            check.due("backBeforeWrite(" + v + ")", d.backBeforeWrite(v), TraceDebugger.NONE);
        }
        for (int c = 0; c <= 7; c++) {
            check.due("cell(" + c + ")", d.cell(c), 0);
            check.due("lastWrite(1, " + c + ")", d.lastWrite(1, c), 0);
        }
        for (int i = 0; i <= 19; i++) {
            check.due("runTo(" + i + ")", d.runTo(i), TraceDebugger.NONE);
            check.due("backTo(" + i + ")", d.backTo(i), TraceDebugger.NONE);
        }
    }

    private static void objectsShareNothing() {
        TraceDebugger used = Programs.countdownAt(7);
        TraceDebugger d = new TraceDebugger();
        check.due("steps() beside another object", d.steps(), 0);
        check.due("time() beside another object", d.time(), 0);
        check.due("variable(5) beside another object", d.variable(5), 0);
        Programs.emit(d, "HALT");
        check.due("steps() of the other object", used.steps(), 10);
        check.due("time() of the other object", used.time(), 7);
    }
}
