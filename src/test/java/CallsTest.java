/** 'What it is': how many calls an object is used for. */
public final class CallsTest {
    private static final int MOST_CALLS = 512;
    private static final Check check = new Check();

    public static void main(String[] args) {
        theLastCallOfEachKind();
        onlyEmits();
        onlyInputs();
        onlySteps();
        laterCallsEnd();
        check.end();
    }

    /** "An object is used for at most 512 calls": the 512th answers as it would have before. */
    private static void theLastCallOfEachKind() {
        check.due("emit, the last call", Programs.emit(usedUpButOne(), "HALT"), 7);
        check.due("input(5), the last call", usedUpButOne().input(5), 22);
        check.due("steps(), the last call", usedUpButOne().steps(), 10);
        check.due("goTo(10), the last call", usedUpButOne().goTo(10), 5);
        check.due("time(), the last call", usedUpButOne().time(), 7);
        check.due("variable(1), the last call", usedUpButOne().variable(1), 3);
        check.due("cell(2), the last call", usedUpButOne().cell(2), 1);
        check.due("lastWrite(0, 1), the last call", usedUpButOne().lastWrite(0, 1), 7);
        check.due("runTo(5), the last call", usedUpButOne().runTo(5), 9);
        check.due("backTo(1), the last call", usedUpButOne().backTo(1), 5);
        check.due("backBeforeWrite(1), the last call", usedUpButOne().backBeforeWrite(1), 6);
    }

    /** The countdown at time 7, after 511 calls. */
    private static TraceDebugger usedUpButOne() {
        // 6 emits and an input
        TraceDebugger d = Programs.countdown(2);
        for (int call = 8; call <= MOST_CALLS - 3; call++) {
            d.input(call);
        }
        d.input(2);
        d.goTo(7);
        return d;
    }

    private static void onlyEmits() {
        TraceDebugger d = new TraceDebugger();
        for (int call = 1; call <= MOST_CALLS; call++) {
            int due = call <= 20 ? call : TraceDebugger.FULL;
            check.due("emit, call " + call, Programs.emit(d, "GOTO 0"), due);
        }
    }

    private static void onlyInputs() {
        TraceDebugger d = new TraceDebugger();
        for (int call = 1; call <= MOST_CALLS; call++) {
            check.due("input, call " + call, d.input(call), 0);
        }
    }

    /** Every step of the longest execution forwards, and every one backwards. */
    private static void onlySteps() {
        TraceDebugger d = Programs.endless();
        for (int t = 1; t <= 200; t++) {
            check.due("runTo(0), to time " + t, d.runTo(0), t);
        }
        check.due("runTo(0) at the end", d.runTo(0), TraceDebugger.NONE);
        for (int t = 199; t >= 0; t--) {
            check.due("backTo(0), to time " + t, d.backTo(0), t);
        }
        check.due("backTo(0) at the beginning", d.backTo(0), TraceDebugger.NONE);
    }

    /** "what later calls answer is free", but LANGUAGE.md lets none of them throw. */
    private static void laterCallsEnd() {
        TraceDebugger d = usedUpButOne();
        for (int call = MOST_CALLS; call <= 2 * MOST_CALLS; call++) {
            Programs.emit(d, "GOTO 0");
            d.input(call);
            d.goTo(call);
            d.runTo(0);
            d.lastWrite(0, 5);
            d.backTo(0);
            d.backBeforeWrite(5);
        }
    }
}
