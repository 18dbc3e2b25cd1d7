/** Promise 12. */
public final class BackBeforeWriteTest {
    public static void main(String[] args) {
        Check check = new Check();
        TraceDebugger d = Programs.countdownAt(10);
        check.due("backBeforeWrite(1)", d.backBeforeWrite(1), 6);
        check.due("time() after it", d.time(), 6);
        check.due("variable(1) after it", d.variable(1), 2);
        check.due("lastWrite(0, 1) after it", d.lastWrite(0, 1), 3);
        check.due("backBeforeWrite(1) again", d.backBeforeWrite(1), 2);
        check.due("backBeforeWrite(1), no more", d.backBeforeWrite(1), TraceDebugger.NONE);
        check.due("time() after none", d.time(), 2);
        check.due("backBeforeWrite(0), to the first time", d.backBeforeWrite(0), 0);
        check.due("backBeforeWrite(0), no more", d.backBeforeWrite(0), TraceDebugger.NONE);
        check.due("backBeforeWrite(5), the input is no write", d.backBeforeWrite(5), TraceDebugger.NONE);
        d.goTo(8);
        check.due("backBeforeWrite(5), of this time's step", d.backBeforeWrite(5), 7);

        TraceDebugger same = new TraceDebugger();
        same.emit(TraceDebugger.SET, 4, 1, 0);
        same.emit(TraceDebugger.SET, 4, 1, 0);
        same.goTo(2);
        check.due("backBeforeWrite(4), of a write without a change", same.backBeforeWrite(4), 1);
        for (int v : new int[] {2, 3, 4}) {
            check.refused("backBeforeWrite(" + v + ")", () -> Programs.countdownAt(10),
                x -> x.backBeforeWrite(v), TraceDebugger.NONE);
        }
        // 7 and 8 would be the written cells 1 and 2 if cells were counted on behind the variables.
        for (int v : new int[] {-1, 6, 7, 8, Integer.MIN_VALUE, Integer.MAX_VALUE}) {
            check.refused("backBeforeWrite(" + v + ")", () -> Programs.countdownAt(10),
                x -> x.backBeforeWrite(v), TraceDebugger.BAD);
        }
        check.end();
    }
}
