/** Promise 4. */
public final class StepsTest {
    private static final Check check = new Check();

    public static void main(String[] args) {
        check.due("steps() without a program", new TraceDebugger().steps(), 0);
        check.due("steps() of a countdown", Programs.countdown(2).steps(), 10);
        check.due("steps() at another time", Programs.countdownAt(7).steps(), 10);
        check.due("steps() of an endless program", Programs.endless().steps(), 200);
        check.due("steps() of a full program", Programs.full().steps(), 1);

        TraceDebugger halt = new TraceDebugger();
        halt.emit(TraceDebugger.HALT, 0, 0, 0);
        halt.emit(TraceDebugger.SET, 0, 1, 0);
        check.due("steps() of HALT", halt.steps(), 1);

        TraceDebugger away = new TraceDebugger();
        away.emit(TraceDebugger.GOTO, 19, 0, 0);
        check.due("steps() of GOTO 19", away.steps(), 1);
        aroundTheLimit();
        check.end();
    }

    /** The countdown takes 4 steps a round and 2 more; with SETs before it the total is 199 to 201. */
    private static void aroundTheLimit() {
        int[] due = {198, 199, 200, 200, 200};
        for (int sets = 0; sets < due.length; sets++) {
            TraceDebugger d = new TraceDebugger();
            for (int i = 0; i < sets; i++) {
                d.emit(TraceDebugger.SET, 4, 0, 0);
            }
            d.emit(TraceDebugger.SET, 0, 1, 0);
            d.emit(TraceDebugger.PUT, 0, 5, 0);
            d.emit(TraceDebugger.ADD, 1, 1, 5);
            d.emit(TraceDebugger.SUB, 5, 5, 0);
            d.emit(TraceDebugger.IFPOS, 5, 1 + sets, 0);
            d.emit(TraceDebugger.HALT, 0, 0, 0);
            check.due("input(49) with " + sets + " SETs", d.input(49), due[sets]);
            check.due("steps() with " + sets + " SETs", d.steps(), due[sets]);
        }
    }
}
