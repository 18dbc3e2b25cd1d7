/** Promise 5. */
public final class GoToTest {
    private static final Check check = new Check();

    public static void main(String[] args) {
        everyTime();
        timesOutside();
        nextAfterTheEnd();
        check.end();
    }

    private static void everyTime() {
        int[] next = {0, 1, 2, 3, 4, 1, 2, 3, 4, 5, 5};
        TraceDebugger d = Programs.countdown(2);
        for (int t = 0; t <= 10; t++) {
            check.due("goTo(" + t + ")", d.goTo(t), next[t]);
            check.due("time() then", d.time(), t);
        }
        for (int t = 10; t >= 0; t--) {
            check.due("goTo(" + t + ") backwards", d.goTo(t), next[t]);
            check.due("goTo(" + t + ") again", d.goTo(t), next[t]);
        }
    }

    private static void timesOutside() {
        for (int t : new int[] {-1, 11, 200, 201, Integer.MIN_VALUE, Integer.MAX_VALUE}) {
            check.refused("goTo(" + t + ")", () -> Programs.countdownAt(7), d -> d.goTo(t), TraceDebugger.BAD);
        }
        TraceDebugger d = Programs.countdown(5);
        d.goTo(22);
        d.input(2);
        check.due("goTo(11), a time of an earlier execution", d.goTo(11), TraceDebugger.BAD);
        TraceDebugger endless = Programs.endless();
        check.due("goTo(200) of an endless program", endless.goTo(200), 0);
        check.due("goTo(201) of an endless program", endless.goTo(201), TraceDebugger.BAD);
        check.due("time() after it", endless.time(), 200);
    }

    private static void nextAfterTheEnd() {
        TraceDebugger away = new TraceDebugger();
        away.emit(TraceDebugger.GOTO, 19, 0, 0);
        check.due("goTo(1) after GOTO 19", away.goTo(1), 19);

        TraceDebugger end = new TraceDebugger();
        for (int i = 0; i < 20; i++) {
            end.emit(TraceDebugger.SET, 0, i, 0);
        }
        check.due("goTo(20) after 20 instructions", end.goTo(20), 20);

        TraceDebugger halt = new TraceDebugger();
        halt.emit(TraceDebugger.SET, 0, 1, 0);
        halt.emit(TraceDebugger.HALT, 0, 0, 0);
        halt.emit(TraceDebugger.SET, 0, 2, 0);
        check.due("goTo(2) after HALT", halt.goTo(2), 1);
    }
}
