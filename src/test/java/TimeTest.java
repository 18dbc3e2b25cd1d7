/** Promise 6. */
public final class TimeTest {
    private static final Check check = new Check();

    public static void main(String[] args) {
        fromFirstToLast();
        afterEachCallThatMoves();
        questionsDoNotMove();
        check.end();
    }

    private static void fromFirstToLast() {
        TraceDebugger d = Programs.endless();
        check.due("time() at first", d.time(), 0);
        for (int t = 0; t <= 200; t++) {
            d.goTo(t);
            check.due("time() after goTo(" + t + ")", d.time(), t);
        }
    }

    private static void afterEachCallThatMoves() {
        TraceDebugger d = Programs.countdown(2);
        d.goTo(10);
        check.due("time() after goTo(10)", d.time(), 10);
        d.backTo(1);
        check.due("time() after backTo(1)", d.time(), 5);
        d.runTo(4);
        check.due("time() after runTo(4)", d.time(), 8);
        d.backBeforeWrite(1);
        check.due("time() after backBeforeWrite(1)", d.time(), 6);
        d.input(3);
        check.due("time() after input", d.time(), 0);
        d.goTo(3);
        Programs.emit(d, "HALT");
        check.due("time() after emit", d.time(), 0);
    }

    private static void questionsDoNotMove() {
        TraceDebugger d = Programs.countdownAt(7);
        d.variable(1);
        d.cell(1);
        d.steps();
        d.time();
        d.lastWrite(0, 1);
        d.lastWrite(1, 1);
        check.due("time() after questions", d.time(), 7);
    }
}
