/** Promise 12. */
public final class BackBeforeWriteTest {
    private static final Check check = new Check();

    public static void main(String[] args) {
        theTimeBeforeTheLatestWrite();
        thisTimesStepCounts();
        laterStepsDoNotCount();
        theFirstAndTheLastStep();
        writesThatChangeNothing();
        everyVariable();
        noneAndTheDebuggerStays();
        theInputIsNoWrite();
        cellsDoNotCount();
        outsideIsBad();
        check.end();
    }

    /** "Goes back to the time before the latest step ... that wrote variable v ... answers the new time." */
    private static void theTimeBeforeTheLatestWrite() {
        TraceDebugger d = Programs.countdownAt(10);
        check.due("backBeforeWrite(1)", d.backBeforeWrite(1), 6);
        check.due("time() after it", d.time(), 6);
        check.due("variable(1) after it", d.variable(1), 2);
        check.due("lastWrite(0, 1) after it", d.lastWrite(0, 1), 3);
        check.due("backBeforeWrite(1) again", d.backBeforeWrite(1), 2);
        check.due("backBeforeWrite(1), no more", d.backBeforeWrite(1), TraceDebugger.NONE);
    }

    /** "up to this time" */
    private static void thisTimesStepCounts() {
        check.due("backBeforeWrite(5) at time 8", Programs.countdownAt(8).backBeforeWrite(5), 7);
    }

    private static void laterStepsDoNotCount() {
        check.due("backBeforeWrite(5) at time 7", Programs.countdownAt(7).backBeforeWrite(5), 3);
    }

    private static void theFirstAndTheLastStep() {
        check.due("backBeforeWrite(0), to time 0", Programs.countdownAt(10).backBeforeWrite(0), 0);
        check.due("backBeforeWrite(0) at time 1", Programs.countdownAt(1).backBeforeWrite(0), 0);
        TraceDebugger d = Programs.at(200, Programs.after199Steps("SET 1 1"));
        check.due("backBeforeWrite(1), of step 200", d.backBeforeWrite(1), 199);
        d.goTo(200);
        check.due("backBeforeWrite(0), of step 1", d.backBeforeWrite(0), 0);
    }

    private static void writesThatChangeNothing() {
        TraceDebugger d = Programs.at(2, Programs.of("SET 4 1", "SET 4 1"));
        check.due("backBeforeWrite(4), of a write without a change", d.backBeforeWrite(4), 1);
    }

    private static void everyVariable() {
        for (int v = 0; v <= 5; v++) {
            check.due("backBeforeWrite(" + v + ")", Programs.filled().backBeforeWrite(v), 30 + v);
        }
    }

    /** "there is none: NONE, and the debugger stays" */
    private static void noneAndTheDebuggerStays() {
        for (int v : new int[] {2, 3, 4}) {
            none(10, v);
        }
        for (int v = 0; v <= 5; v++) {
            none(0, v);
        }
        none(2, 1);
    }

    private static void theInputIsNoWrite() {
        none(3, 5);
    }

    private static void cellsDoNotCount() {
        TraceDebugger d = Programs.at(1, Programs.of("PUT 1 2"));
        for (int v = 0; v <= 5; v++) {
            check.due("backBeforeWrite(" + v + ") after a PUT", d.backBeforeWrite(v), TraceDebugger.NONE);
        }
    }

    /** "v outside 0..5: BAD": a cell's number, too. */
    private static void outsideIsBad() {
        for (int v : new int[] {-1, 6, 7, 8, 13, Programs.SMALLEST, Programs.LARGEST}) {
            check.refused("backBeforeWrite(" + v + ")", Programs.filledAt(36), d -> d.backBeforeWrite(v),
                TraceDebugger.BAD);
        }
    }

    private static void none(int time, int v) {
        check.refused("backBeforeWrite(" + v + ") at time " + time, () -> Programs.countdownAt(time),
            d -> d.backBeforeWrite(v), TraceDebugger.NONE);
    }
}
