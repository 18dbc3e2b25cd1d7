/** Promise 6. */
public final class TimeTest {
    public static void main(String[] args) {
        Check check = new Check();
        TraceDebugger d = Programs.countdown(2);
        check.due("time() at first", d.time(), 0);
        d.goTo(10);
        check.due("time() after goTo(10)", d.time(), 10);
        d.variable(1);
        d.cell(1);
        d.steps();
        d.lastWrite(0, 1);
        check.due("time() after questions", d.time(), 10);
        d.backTo(1);
        check.due("time() after backTo(1)", d.time(), 5);
        d.runTo(4);
        check.due("time() after runTo(4)", d.time(), 8);
        d.backBeforeWrite(1);
        check.due("time() after backBeforeWrite(1)", d.time(), 6);
        d.input(3);
        check.due("time() after input", d.time(), 0);
        d.goTo(3);
        d.emit(TraceDebugger.HALT, 0, 0, 0);
        check.due("time() after emit", d.time(), 0);
        check.end();
    }
}
