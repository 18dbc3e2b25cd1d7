/** Promise 10. */
public final class RunToTest {
    public static void main(String[] args) {
        Check check = new Check();
        TraceDebugger d = Programs.countdown(2);
        check.due("runTo(1)", d.runTo(1), 1);
        check.due("runTo(1), the next later one", d.runTo(1), 5);
        check.due("time() after it", d.time(), 5);
        check.due("variable(1) after it", d.variable(1), 2);
        check.due("runTo(1), no more", d.runTo(1), TraceDebugger.NONE);
        check.due("time() after none", d.time(), 5);
        check.due("runTo(5), before the HALT", d.runTo(5), 9);
        check.due("runTo(5), after the HALT", d.runTo(5), 10);
        check.due("runTo(5), no more", d.runTo(5), TraceDebugger.NONE);

        TraceDebugger shorter = Programs.countdown(5);
        shorter.input(2);
        shorter.goTo(5);
        check.due("runTo(1), only in an earlier execution", shorter.runTo(1), TraceDebugger.NONE);

        TraceDebugger endless = Programs.endless();
        endless.goTo(199);
        check.due("runTo(0) to the last time", endless.runTo(0), 200);
        check.due("runTo(0) at the last time", endless.runTo(0), TraceDebugger.NONE);

        TraceDebugger away = new TraceDebugger();
        away.emit(TraceDebugger.GOTO, 19, 0, 0);
        check.due("runTo(19), no such instruction", away.runTo(19), 1);
        check.due("runTo(0), not this time", Programs.countdown(2).runTo(0), TraceDebugger.NONE);
        for (int i : new int[] {0, 6, 19}) {
            check.refused("runTo(" + i + ")", () -> Programs.countdownAt(7), x -> x.runTo(i), TraceDebugger.NONE);
        }
        for (int i : new int[] {-1, 20, Integer.MIN_VALUE, Integer.MAX_VALUE}) {
            check.refused("runTo(" + i + ")", () -> Programs.countdownAt(7), x -> x.runTo(i), TraceDebugger.BAD);
        }
        check.end();
    }
}
