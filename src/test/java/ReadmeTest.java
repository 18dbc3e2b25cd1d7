/** The example of README.md, call by call: each answer is the one that stands there. */
public final class ReadmeTest {
    private static final Check check = new Check();

    public static void main(String[] args) {
        TraceDebugger d = new TraceDebugger();
        d.emit(TraceDebugger.ADD, 1, 1, 5);
        d.emit(TraceDebugger.SET, 0, 1, 0);
        d.emit(TraceDebugger.SUB, 5, 5, 0);
        d.emit(TraceDebugger.IFPOS, 5, 0, 0);
        d.emit(TraceDebugger.HALT, 0, 0, 0);
        int steps = d.input(3);
        check.due("input(3)", steps, 13);
        check.due("goTo(steps)", d.goTo(steps), 4);
        check.due("variable(1)", d.variable(1), 6);
        check.due("lastWrite(0, 1)", d.lastWrite(0, 1), 9);
        check.due("backBeforeWrite(1)", d.backBeforeWrite(1), 8);
        check.due("variable(1) there", d.variable(1), 5);
        check.due("backTo(3)", d.backTo(3), 7);
        check.due("runTo(4)", d.runTo(4), 12);
        check.end();
    }
}
