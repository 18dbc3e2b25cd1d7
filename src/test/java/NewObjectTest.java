/** Promise 1. */
public final class NewObjectTest {
    public static void main(String[] args) {
        Check check = new Check();
        TraceDebugger d = new TraceDebugger();
        check.due("steps()", d.steps(), 0);
        check.due("time()", d.time(), 0);
        for (int v = 0; v < 6; v++) {
            check.due("variable(" + v + ")", d.variable(v), 0);
            check.due("lastWrite(0, " + v + ")", d.lastWrite(0, v), 0);
            check.due("backBeforeWrite(" + v + ")", d.backBeforeWrite(v), TraceDebugger.NONE);
        }
        for (int c = 0; c < 8; c++) {
            check.due("cell(" + c + ")", d.cell(c), 0);
            check.due("lastWrite(1, " + c + ")", d.lastWrite(1, c), 0);
        }
        for (int i = 0; i < 20; i++) {
            check.due("runTo(" + i + ")", d.runTo(i), TraceDebugger.NONE);
            check.due("backTo(" + i + ")", d.backTo(i), TraceDebugger.NONE);
        }
        check.due("goTo(1)", d.goTo(1), TraceDebugger.BAD);
        check.due("goTo(0)", d.goTo(0), 0);
        check.due("emit, the first", d.emit(TraceDebugger.HALT, 0, 0, 0), 1);

        TraceDebugger other = new TraceDebugger();
        check.due("steps() of another object", other.steps(), 0);
        check.end();
    }
}
