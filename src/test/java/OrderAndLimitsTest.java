/** Promise 13. */
public final class OrderAndLimitsTest {
    private static final Check check = new Check();

    public static void main(String[] args) {
        badBeforeNone();
        refusedCallsChangeNothing();
        check.end();
    }

    /** Without a program every search finds nothing, so only the order decides. */
    private static void badBeforeNone() {
        for (int i : new int[] {-1, 20, Integer.MIN_VALUE, Integer.MAX_VALUE}) {
            check.due("runTo(" + i + ")", new TraceDebugger().runTo(i), TraceDebugger.BAD);
            check.due("backTo(" + i + ")", new TraceDebugger().backTo(i), TraceDebugger.BAD);
        }
        for (int v : new int[] {-1, 6, Integer.MIN_VALUE, Integer.MAX_VALUE}) {
            check.due("backBeforeWrite(" + v + ")", new TraceDebugger().backBeforeWrite(v), TraceDebugger.BAD);
        }
        TraceDebugger end = new TraceDebugger();
        for (int i = 0; i < 20; i++) {
            end.emit(TraceDebugger.SET, 0, i, 0);
        }
        check.due("runTo(20), though 20 is next at the end", end.runTo(20), TraceDebugger.BAD);
        check.due("time() after it", end.time(), 0);
    }

    private static void refusedCallsChangeNothing() {
        for (int t = 0; t <= 10; t++) {
            int time = t;
            check.refused("calls that are refused at time " + t, () -> Programs.countdownAt(time),
                OrderAndLimitsTest::callsThatAreRefused, -14);
        }
        check.refused("emit when full", OrderAndLimitsTest::fullAtItsEnd,
            d -> d.emit(TraceDebugger.SET, 0, 1, 0), TraceDebugger.FULL);
    }

    private static int callsThatAreRefused(TraceDebugger d) {
        return d.emit(9, 0, 0, 0) + d.emit(TraceDebugger.ADD, 0, 0, 6) + d.emit(TraceDebugger.GOTO, 20, 0, 0)
            + d.goTo(-1) + d.goTo(11) + d.lastWrite(2, 0) + d.lastWrite(0, 6) + d.lastWrite(1, 8)
            + d.runTo(20) + d.runTo(19) / 3 + d.backTo(20) + d.backTo(19) / 3
            + d.backBeforeWrite(6) + d.backBeforeWrite(3) / 3;
    }

    private static TraceDebugger fullAtItsEnd() {
        TraceDebugger d = Programs.full();
        d.goTo(1);
        return d;
    }
}
