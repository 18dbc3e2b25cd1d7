import java.util.function.ToIntFunction;

/** Promise 13. */
public final class OrderAndLimitsTest {
    private static final Check check = new Check();

    public static void main(String[] args) {
        badBeforeNone();
        for (int time = 0; time <= 10; time++) {
            refusedCallsChangeNothing(time);
        }
        check.refused("emit when full", OrderAndLimitsTest::fullAtItsEnd,
            d -> d.emit(TraceDebugger.SET, 0, 1, 0), TraceDebugger.FULL);
        check.end();
    }

    /** Without a program every search finds nothing, so only the order decides. */
    private static void badBeforeNone() {
        for (int i : new int[] {-1, 20, Integer.MIN_VALUE, Integer.MAX_VALUE}) {
            check.due("runTo(" + i + ")", new TraceDebugger().runTo(i), TraceDebugger.BAD);
            check.due("backTo(" + i + ")", new TraceDebugger().backTo(i), TraceDebugger.BAD);
        }
        for (int v : new int[] {-1, 6, Integer.MIN_VALUE, Integer.MAX_VALUE}) {
            check.due("backBeforeWrite(" + v + ")", new TraceDebugger().backBeforeWrite(v), TraceDebugger.BAD);
        }
        TraceDebugger end = new TraceDebugger();
        for (int i = 0; i < 20; i++) {
            end.emit(TraceDebugger.SET, 0, i, 0);
        }
        check.due("runTo(20), though 20 is next at the end", end.runTo(20), TraceDebugger.BAD);
        check.due("time() after it", end.time(), 0);
    }

    private static void refusedCallsChangeNothing(int time) {
        refused(time, "emit(9, 0, 0, 0)", d -> d.emit(9, 0, 0, 0), TraceDebugger.BAD);
        refused(time, "emit(ADD, 0, 0, 6)", d -> d.emit(TraceDebugger.ADD, 0, 0, 6), TraceDebugger.BAD);
        refused(time, "emit(GOTO, 20, 0, 0)", d -> d.emit(TraceDebugger.GOTO, 20, 0, 0), TraceDebugger.BAD);
        refused(time, "goTo(-1)", d -> d.goTo(-1), TraceDebugger.BAD);
        refused(time, "goTo(11)", d -> d.goTo(11), TraceDebugger.BAD);
        refused(time, "variable(6)", d -> d.variable(6), 0);
        refused(time, "cell(8)", d -> d.cell(8), 0);
        refused(time, "lastWrite(2, 0)", d -> d.lastWrite(2, 0), TraceDebugger.BAD);
        refused(time, "lastWrite(0, 6)", d -> d.lastWrite(0, 6), TraceDebugger.BAD);
        refused(time, "lastWrite(1, 8)", d -> d.lastWrite(1, 8), TraceDebugger.BAD);
        refused(time, "runTo(20)", d -> d.runTo(20), TraceDebugger.BAD);
        refused(time, "runTo(19)", d -> d.runTo(19), TraceDebugger.NONE);
        refused(time, "backTo(20)", d -> d.backTo(20), TraceDebugger.BAD);
        refused(time, "backTo(19)", d -> d.backTo(19), TraceDebugger.NONE);
        refused(time, "backBeforeWrite(6)", d -> d.backBeforeWrite(6), TraceDebugger.BAD);
        refused(time, "backBeforeWrite(3)", d -> d.backBeforeWrite(3), TraceDebugger.NONE);
    }

    private static void refused(int time, String call, ToIntFunction<TraceDebugger> run, int want) {
        check.refused("at time " + time + ", " + call, () -> Programs.countdownAt(time), run, want);
    }

    private static TraceDebugger fullAtItsEnd() {
        TraceDebugger d = Programs.full();
        d.goTo(1);
        return d;
    }
}
