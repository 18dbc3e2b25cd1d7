/** Promise 9. */
public final class LastWriteTest {
    private static final Check check = new Check();

    public static void main(String[] args) {
        theLatestStepUpToThisTime();
        theFirstAndTheLastStep();
        writesThatChangeNothing();
        noneIsZero();
        theInputIsNoWrite();
        writesOfAnEarlierExecution();
        everyVariableAndEveryCell();
        wrongWhat();
        variablesOutside();
        cellsOutside();
        check.end();
    }

    /** "The number of the latest step, up to this time, that wrote variable v (what 0) or cell v (what 1)" */
    private static void theLatestStepUpToThisTime() {
        int[] zero = {0, 1, 1, 1, 1, 1, 1, 1, 1, 1, 1};
        int[] sum = {0, 0, 0, 3, 3, 3, 3, 7, 7, 7, 7};
        int[] count = {0, 0, 0, 0, 4, 4, 4, 4, 8, 8, 8};
        TraceDebugger d = Programs.countdown(2);
        for (int t = 10; t >= 0; t--) {
            d.goTo(t);
            String there = " at time " + t;
            check.due("lastWrite(0, 0)" + there, d.lastWrite(0, 0), zero[t]);
            check.due("lastWrite(0, 1)" + there, d.lastWrite(0, 1), sum[t]);
            check.due("lastWrite(0, 2)" + there, d.lastWrite(0, 2), 0);
            check.due("lastWrite(0, 5)" + there, d.lastWrite(0, 5), count[t]);
            check.due("lastWrite(1, 0)" + there, d.lastWrite(1, 0), 0);
            check.due("lastWrite(1, 1)" + there, d.lastWrite(1, 1), t >= 6 ? 6 : 0);
            check.due("lastWrite(1, 2)" + there, d.lastWrite(1, 2), t >= 2 ? 2 : 0);
            check.due("time() after the questions", d.time(), t);
        }
    }

    private static void theFirstAndTheLastStep() {
        TraceDebugger d = Programs.after199Steps("SET 1 1");
        d.goTo(200);
        check.due("lastWrite(0, 0), by step 1", d.lastWrite(0, 0), 1);
        check.due("lastWrite(0, 1), by step 200", d.lastWrite(0, 1), 200);
        d.goTo(199);
        check.due("lastWrite(0, 1) before step 200", d.lastWrite(0, 1), 0);
        d.goTo(0);
        check.due("lastWrite(0, 0) before step 1", d.lastWrite(0, 0), 0);
    }

    /** "also if it did not change its value" */
    private static void writesThatChangeNothing() {
        TraceDebugger d = Programs.of("SET 0 0", "ADD 0 0 0", "SUB 1 0 0", "MUL 2 0 0", "FETCH 3 0", "PUT 0 4",
            "PUT 0 4");
        d.goTo(7);
        check.due("lastWrite(0, 0) of ADD", d.lastWrite(0, 0), 2);
        check.due("lastWrite(0, 1) of SUB", d.lastWrite(0, 1), 3);
        check.due("lastWrite(0, 2) of MUL", d.lastWrite(0, 2), 4);
        check.due("lastWrite(0, 3) of FETCH", d.lastWrite(0, 3), 5);
        check.due("lastWrite(1, 0) of the second PUT", d.lastWrite(1, 0), 7);
        d.goTo(6);
        check.due("lastWrite(1, 0) of the first PUT", d.lastWrite(1, 0), 6);
        d.goTo(1);
        check.due("lastWrite(0, 0) of SET", d.lastWrite(0, 0), 1);
    }

    /** "0 if there is none": IFPOS, GOTO and HALT write nothing, PUT no variable, FETCH no cell. */
    private static void noneIsZero() {
        TraceDebugger d = Programs.of("PUT 2 5", "IFPOS 2 0", "GOTO 3", "HALT 2 2 2");
        d.input(-1);
        d.goTo(4);
        for (int v = 0; v <= 5; v++) {
            check.due("lastWrite(0, " + v + ") of no write", d.lastWrite(0, v), 0);
        }
        for (int c = 0; c <= 6; c++) {
            check.due("lastWrite(1, " + c + ") of no write", d.lastWrite(1, c), 0);
        }
        check.due("lastWrite(1, 7), the cell of -1", d.lastWrite(1, 7), 1);
        TraceDebugger fetch = Programs.at(1, Programs.of("FETCH 3 4"));
        for (int c = 0; c <= 7; c++) {
            check.due("lastWrite(1, " + c + ") of a FETCH", fetch.lastWrite(1, c), 0);
        }
    }

    private static void theInputIsNoWrite() {
        TraceDebugger d = Programs.of("HALT");
        d.input(7);
        check.due("lastWrite(0, 5) at time 0", d.lastWrite(0, 5), 0);
        d.goTo(1);
        check.due("lastWrite(0, 5) at time 1", d.lastWrite(0, 5), 0);
    }

    private static void writesOfAnEarlierExecution() {
        TraceDebugger d = Programs.of("IFPOS 5 2", "HALT", "SET 0 1", "PUT 0 0");
        d.goTo(d.input(1));
        check.due("lastWrite(0, 0) with input 1", d.lastWrite(0, 0), 2);
        check.due("lastWrite(1, 1) with input 1", d.lastWrite(1, 1), 3);
        d.goTo(d.input(0));
        check.due("lastWrite(0, 0) with input 0", d.lastWrite(0, 0), 0);
        check.due("lastWrite(1, 1) with input 0", d.lastWrite(1, 1), 0);
    }

    private static void everyVariableAndEveryCell() {
        TraceDebugger d = Programs.filled();
        for (int v = 0; v <= 5; v++) {
            check.due("lastWrite(0, " + v + ")", d.lastWrite(0, v), 31 + v);
        }
        check.due("lastWrite(1, 0)", d.lastWrite(1, 0), 24);
        for (int c = 1; c <= 7; c++) {
            check.due("lastWrite(1, " + c + ")", d.lastWrite(1, c), 23 - 3 * c);
        }
    }

    /** "BAD if what is neither 0 nor 1" */
    private static void wrongWhat() {
        for (int what : new int[] {-1, 2, 3, Programs.SMALLEST, Programs.LARGEST}) {
            for (int v : new int[] {0, 5, 7, -1, 8}) {
                bad(what, v);
            }
        }
    }

    /** "BAD if ... v is outside 0..5": a cell's number, too. */
    private static void variablesOutside() {
        for (int v : new int[] {-1, 6, 7, 8, 13, Programs.SMALLEST, Programs.LARGEST}) {
            bad(0, v);
        }
    }

    /** "... or 0..7" */
    private static void cellsOutside() {
        for (int c : new int[] {-1, 8, 15, -6, -8, Programs.SMALLEST, Programs.LARGEST}) {
            bad(1, c);
        }
    }

    private static void bad(int what, int v) {
        String call = "lastWrite(" + what + ", " + v + ")";
        check.refused(call, Programs.filledAt(36), d -> d.lastWrite(what, v), TraceDebugger.BAD);
        check.due(call + " of a new object", new TraceDebugger().lastWrite(what, v), TraceDebugger.BAD);
    }
}
