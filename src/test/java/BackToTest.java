/** Promise 11. */
public final class BackToTest {
    public static void main(String[] args) {
        Check check = new Check();
        TraceDebugger d = Programs.countdownAt(10);
        check.due("backTo(5), before the HALT", d.backTo(5), 9);
        check.due("backTo(5), no more", d.backTo(5), TraceDebugger.NONE);
        check.due("time() after none", d.time(), 9);
        check.due("backTo(1)", d.backTo(1), 5);
        check.due("time() after it", d.time(), 5);
        check.due("variable(1) after it", d.variable(1), 2);
        check.due("backTo(1), the next earlier one", d.backTo(1), 1);
        check.due("backTo(1), no more", d.backTo(1), TraceDebugger.NONE);
        check.due("backTo(0), the first time", d.backTo(0), 0);
        check.due("backTo(0), not this time", d.backTo(0), TraceDebugger.NONE);

        TraceDebugger endless = Programs.endless();
        endless.goTo(200);
        check.due("backTo(0) of an endless program", endless.backTo(0), 199);
        endless.goTo(1);
        check.due("backTo(0) at time 1", endless.backTo(0), 0);
        check.due("backTo(0) at time 0", endless.backTo(0), TraceDebugger.NONE);

        TraceDebugger away = new TraceDebugger();
        away.emit(TraceDebugger.GOTO, 19, 0, 0);
        away.goTo(1);
        check.due("backTo(19), only at this time", away.backTo(19), TraceDebugger.NONE);
        for (int i : new int[] {5, 6, 19}) {
            check.refused("backTo(" + i + ")", () -> Programs.countdownAt(7), x -> x.backTo(i), TraceDebugger.NONE);
        }
        for (int i : new int[] {-1, 20, Integer.MIN_VALUE, Integer.MAX_VALUE}) {
            check.refused("backTo(" + i + ")", () -> Programs.countdownAt(7), x -> x.backTo(i), TraceDebugger.BAD);
        }
        check.end();
    }
}
